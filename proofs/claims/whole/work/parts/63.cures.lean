/-- both bars: cures can be done, or not -/
theorem bar_sim {th sa hr : Int32} {il ro ef bf li : Nat → Int32} {cn : Int32} {be ho af : Nat → Int32} {mt : Int32} {bk ds ba ml : Nat → Int32} {ms : Int32} {si : Nat → Int32} (H : RelH th sa hr il ro ef bf li cn be ho af mt bk ds ba ml ms si) {sg pa : Nat → Int32} (hk : ∀ k, k < 60 → pa k = sg k) {n : Nat} (hn : n ≤ 60) (xa xw xh xwh xwp xt xs xr : Int32) (xil xro xef xbf xli : Nat → Int32) (xcn : Int32) (xbe xho xaf : Nat → Int32) (wa ww hh rs ac : Int32) (nw tn ah : Nat → Int32) :
    ∃ b b7 a2 y h2 wa2 ww2 t2 sa2 hr2 il2 ro2 ef2 bf2 li2 cn2 be2 ho2 af2 ma2 mw2 mh2 rs2 ac2 nw2 tn2 ah2, fX7_canBeDone FU th sa hr il ro ef bf li cn be ho af (nI n) sg xa xw xh xwh xwp xt xs xr xil xro xef xbf xli xcn xbe xho xaf = some (b, a2, y, h2, wa2, ww2, t2, sa2, hr2, il2, ro2, ef2, bf2, li2, cn2, be2, ho2, af2) ∧ fX8_barOfCures FU mt (nI n) wa ww hh rs ac bk nw ds ba pa tn ah = some (b7, ma2, mw2, mh2, rs2, ac2, nw2, tn2, ah2) ∧ ((b = 0 ∧ b7 = -5) ∨ (b = 1 ∧ b7 = 0 ∧ ma2 = wa2 ∧ mw2 = ww2 ∧ ac2 = a2 ∧ RelH t2 sa2 hr2 il2 ro2 ef2 bf2 li2 cn2 be2 ho2 af2 mt nw2 ds ba ml ms si)) := by
  obtain ⟨r, g1, g2, g3⟩ := fault_s hk hn
  unfold fX7_canBeDone fX8_barOfCures
  rw [g1, g2]
  simp only [bd1_s, nme_s, if0, if1, if_true, if_false, Bool.false_eq_true, nI_1]
  rcases g3 with ⟨rfl, hF⟩ | hr0
  · obtain ⟨y, r7, a2, h2, wa2, ww2, sa2, hr2, rs2, il2, ro2, ef2, bf2, li2, be2, ho2, af2, nw2, tn2, ah2, f1, f2, f3, f4⟩ := go_sim H hk hn hF xa xw xh xwh xwp xt xs xr xil xro xef xbf xli xcn xbe xho xaf wa ww hh rs ac nw tn ah
    simp only [if_neg (show ¬ (0 : Int32) ≤ -6 by decide), if_true, f1, f2, bd17_s, bd9_s]
    rcases f4 with ⟨rfl, rfl⟩ | ⟨hy, rfl, ha, rfl⟩
    · simp only [if_pos neg6, if_true]
      exact ⟨_, _, _, _, _, _, _, _, _, _, _, _, _, _, _, _, _, _, _, _, _, _, _, _, _, _, _, rfl, rfl, Or.inr ⟨rfl, rfl, rfl, rfl, rfl, f3⟩⟩
    · simp only [if_neg (ney hy), if_neg (nlt0 ha)]
      exact ⟨_, _, _, _, _, _, _, _, _, _, _, _, _, _, _, _, _, _, _, _, _, _, _, _, _, _, _, rfl, rfl, Or.inl ⟨rfl, rfl⟩⟩
  · simp only [if_neg (ne6 hr0), if_pos (show (0 : Int32) ≤ r from Int32.le_iff_toInt_le.mpr hr0)]
    exact ⟨_, _, _, _, _, _, _, _, _, _, _, _, _, _, _, _, _, _, _, _, _, _, _, _, _, _, _, rfl, rfl, Or.inl ⟨rfl, rfl⟩⟩
theorem ps_worse : PS_worse := by
  intro th sa hr il ro ef bf li cn be ho af le sg mo mt bk ds ba ml ms si sn pa mm xa xw xh xwh xwp xt xs xr xil xro xef xbf xli xcn xbe xho xaf wa ww hh rs ac nw tn ah hH hP hM a1
  obtain ⟨e, l, hk⟩ := hP
  subst e
  obtain ⟨n, hn, rfl⟩ := nI_of_toInt (n := 61) l.1 (by omega)
  unfold fX7_worse fX8_worse
  rw [among_in (v := a1) (n := 2) (m := 1) (by decide)]
  rcases in_cases a1 0 1 with ⟨g, -⟩ | ⟨g, -⟩
  · simp only [g, bd1_s, nme_s, if0, if1, if_true, if_false, Bool.false_eq_true, nI_1]
    exact ⟨_, _, _, _, _, _, _, _, _, _, _, _, _, _, _, _, _, _, _, _, _, _, _, _, _, _, rfl, rfl⟩
  simp only [g, bd1_s, nme_s, if0, if1, if_true, if_false, Bool.false_eq_true, nI_1]
  obtain ⟨b, b7, a2, y, h2, wa2, ww2, t2, sa2, hr2, il2, ro2, ef2, bf2, li2, cn2, be2, ho2, af2, ma2, mw2, mh2, rs2, ac2, nw2, tn2, ah2, f1, f2, f3⟩ := bar_sim hH hk (n := n) (by omega) xa xw xh xwh xwp xt xs xr xil xro xef xbf xli xcn xbe xho xaf wa ww hh rs ac nw tn ah
  rw [f1, f2, bd18_s, bd9_s]
  rcases f3 with ⟨rfl, rfl⟩ | ⟨rfl, rfl, rfl, rfl, rfl, -⟩
  · rw [if0, if_neg (by decide)]
    exact ⟨_, _, _, _, _, _, _, _, _, _, _, _, _, _, _, _, _, _, _, _, _, _, _, _, _, _, rfl, rfl⟩
  · rw [if1, if_pos (show (0 : Int32) ≤ 0 by decide)]
    by_cases c : a1 = 0
    · simp only [if_pos c]
      exact ⟨_, _, _, _, _, _, _, _, _, _, _, _, _, _, _, _, _, _, _, _, _, _, _, _, _, _, rfl, rfl⟩
    · simp only [if_neg c]
      exact ⟨_, _, _, _, _, _, _, _, _, _, _, _, _, _, _, _, _, _, _, _, _, _, _, _, _, _, rfl, rfl⟩
theorem ps_behind : PS_behind := by
  intro th sa hr il ro ef bf li cn be ho af le sg mo mt bk ds ba ml ms si sn pa mm xa xw xh xwh xwp xt xs xr xil xro xef xbf xli xcn xbe xho xaf wa ww hh rs ac nw tn ah hH hP hM a1 a2'
  obtain ⟨e, l, hk⟩ := hP
  subst e
  obtain ⟨n, hn, rfl⟩ := nI_of_toInt (n := 61) l.1 (by omega)
  have e1 : mt = th := hH.2.1
  subst e1
  unfold fX7_behind fX8_behind
  rw [among_in (v := a2') (n := 4) (m := 3) (by decide)]
  rcases there_cases mt a1 with ⟨g1, g2⟩ | ⟨p, hp, rfl, -, g1, g2⟩
  · simp only [g1, g2, bd1_s, nme_s, if0, if1, if_true, if_false, Bool.false_eq_true, nI_1]
    exact ⟨_, _, _, _, _, _, _, _, _, _, _, _, _, _, _, _, _, _, _, _, _, _, _, _, _, _, rfl, rfl⟩
  simp only [g1, g2, bd1_s, nme_s, if0, if1, if_true, if_false, Bool.false_eq_true, nI_1]
  rcases in_cases a2' 0 3 with ⟨g, -⟩ | ⟨g, b1, b2⟩
  · simp only [g, bd1_s, nme_s, if0, if1, if_true, if_false, Bool.false_eq_true, nI_1]
    exact ⟨_, _, _, _, _, _, _, _, _, _, _, _, _, _, _, _, _, _, _, _, _, _, _, _, _, _, rfl, rfl⟩
  simp only [g, bd1_s, nme_s, if0, if1, if_true, if_false, Bool.false_eq_true, nI_1]
  have z0 : (0 : Int32).toInt = 0 := by decide
  have z3 : (3 : Int32).toInt = 3 := by decide
  obtain ⟨q, hq, rfl⟩ := nI_of_toInt (n := 4) (x := a2') (by omega) (by omega)
  obtain ⟨b, b7, a2, y, h2, wa2, ww2, t2, sa2, hr2, il2, ro2, ef2, bf2, li2, cn2, be2, ho2, af2, ma2, mw2, mh2, rs2, ac2, nw2, tn2, ah2, f1, f2, f3⟩ := bar_sim hH hk (n := n) (by omega) xa xw xh xwh xwp xt xs xr xil xro xef xbf xli xcn xbe xho xaf wa ww hh rs ac nw tn ah
  rw [f1, f2, bd18_s, bd9_s]
  rcases f3 with ⟨rfl, rfl⟩ | ⟨rfl, rfl, rfl, rfl, rfl, H2⟩
  · rw [if0, if_neg (by decide)]
    exact ⟨_, _, _, _, _, _, _, _, _, _, _, _, _, _, _, _, _, _, _, _, _, _, _, _, _, _, rfl, rfl⟩
  · obtain ⟨⟨v1, v2, v3, v4, v5, v6, v7, v8, v9, v10, v11⟩, h1, h2, h3, h4, h5, h6, h7, h8, h9, h10⟩ := H2
    rw [if1, if_pos (by decide)]
    unfold fX1_tellOf
    by_cases q3 : q = 3
    · subst q3
      rw [if_pos (by decide), if_pos (by decide), ldI_at (j := p) rfl hp (by decide), bd1_s, ldI_at (iz18 p) (by omega) (by decide), h3 p hp]
      exact ⟨_, _, _, _, _, _, _, _, _, _, _, _, _, _, _, _, _, _, _, _, _, _, _, _, _, _, rfl, rfl⟩
    · have hn3 : ¬ (3 : Int32) ≤ nI q := nI_ge (b := 3) (by omega) (by decide)
      rw [if_neg hn3, if_neg hn3, illOf_s il2 hp (by omega), bd1_s, bd1_s, ldI_at (iy3 p q) (by omega) (by decide), h2 _ (by omega)]
      exact ⟨_, _, _, _, _, _, _, _, _, _, _, _, _, _, _, _, _, _, _, _, _, _, _, _, _, _, rfl, rfl⟩
theorem done_loop (bk : Nat → Int32) : ∀ (d i : Nat), i + d = 26 → ∀ (fuel : Nat) (g : Nat → Int32), d < fuel → fX8_done_12 bk fuel (nI i) g = some (fun k => if i ≤ k ∧ k < 26 then bk k else g k) := by
  intro d
  induction d with
  | zero =>
    intro i hi fuel g hf
    obtain ⟨m, rfl⟩ : ∃ m, fuel = m + 1 := ⟨fuel - 1, by omega⟩
    rw [fX8_done_12, if_pos (show 26 ≤ nI i from nI_le (a := 26) (by omega) (by omega))]
    congr 1; funext k; rw [if_neg (by omega)]
  | succ d ih =>
    intro i hi fuel g hf
    obtain ⟨m, rfl⟩ : ∃ m, fuel = m + 1 := ⟨fuel - 1, by omega⟩
    rw [fX8_done_12, if_neg (show ¬ 26 ≤ nI i from nI_ge (b := 26) (by omega) (by decide)), ldI_at (j := i) rfl (by omega) (by decide), stI_at (j := i) rfl (by omega) (by decide), nme_s, nI_1, ih (i + 1) (by omega) m _ (by omega)]
    congr 1; funext k; simp only [upd]
    by_cases h1 : k = i
    · subst h1; rw [if_neg (by omega), if_pos rfl, if_pos (by omega)]
    · rw [if_neg h1]
      by_cases h2 : i + 1 ≤ k ∧ k < 26
      · rw [if_pos h2, if_pos (by omega)]
      · rw [if_neg h2, if_neg (by omega)]
theorem ps_done : PS_done := by
  intro th sa hr il ro ef bf li cn be ho af le sg mo mt bk ds ba ml ms si sn pa mm xa xw xh xwh xwp xt xs xr xil xro xef xbf xli xcn xbe xho xaf wa ww hh rs ac nw tn ah hH hP hM _
  have hP0 := hP
  obtain ⟨e, l, hk⟩ := hP
  subst e
  obtain ⟨n, hn, rfl⟩ := nI_of_toInt (n := 61) l.1 (by omega)
  unfold fX7_done fX8_done
  obtain ⟨b, b7, a2, y, h2, wa2, ww2, t2, sa2, hr2, il2, ro2, ef2, bf2, li2, cn2, be2, ho2, af2, ma2, mw2, mh2, rs2, ac2, nw2, tn2, ah2, f1, f2, f3⟩ := bar_sim hH hk (n := n) (by omega) xa xw xh xwh xwp xt xs xr xil xro xef xbf xli xcn xbe xho xaf wa ww hh rs ac nw tn ah
  rw [f1, f2, bd18_s, bd9_s]
  rcases f3 with ⟨rfl, rfl⟩ | ⟨rfl, rfl, rfl, rfl, rfl, H2⟩
  · rw [if0, if_neg (by decide)]
    exact ⟨_, _, _, _, _, _, _, _, _, _, _, _, _, _, _, _, _, _, _, _, _, _, _, _, _, _, _, _, _, _, _, _, _, _, _, _, _, _, _, _, _, rfl, rfl, hH, hP0⟩
  · obtain ⟨il', ro', ef', bf', li', be', ho', af', e0, e1, e2, e3, e4, e5, e6, e7, e8⟩ := take_s th sa hr il ro ef bf li cn be ho af t2 sa2 hr2 il2 ro2 ef2 bf2 li2 cn2 be2 ho2 af2
    rw [if1, if_pos (by decide), e0, bd12_s, show fX8_done_12 nw2 FU 0 bk = _ from done_loop nw2 26 0 rfl FU bk (by decide), bd1_s]
    refine ⟨_, _, _, _, _, _, _, _, _, _, _, _, _, _, _, _, _, _, _, _, _, _, _, _, _, _, _, _, _, _, _, _, _, _, _, _, _, _, _, _, _, rfl, rfl, (H2.take e1 e2 e3 e4 e5 e6 e7 e8).book (fun k hk => ?_), ⟨rfl, by decide, hk⟩⟩
    rw [if_pos ⟨by omega, hk⟩]
