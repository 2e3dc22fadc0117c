/-! a house taken from another; cures judged, done, told -/
theorem cpy_at (f g : Nat → Int32) {n k : Nat} (h : k < n) : va_cpy f g 0 0 n k = f k := by
  unfold va_cpy; rw [if_pos ⟨by omega, by omega⟩]; congr 1; omega
theorem take_s (kt ks kh : Int32) (kil kro kef kbf kli : Nat → Int32) (kcn : Int32) (kbe kho kaf : Nat → Int32) (th sa hr : Int32) (il ro ef bf li : Nat → Int32) (cn : Int32) (be ho af : Nat → Int32) : ∃ il' ro' ef' bf' li' be' ho' af', fX1_takeFrom kt ks kh kil kro kef kbf kli kcn kbe kho kaf th sa hr il ro ef bf li cn be ho af = some (th, sa, hr, il', ro', ef', bf', li', cn, be', ho', af') ∧ (∀ k, k < 18 → il' k = il k) ∧ (∀ k, k < 6 → ro' k = ro k) ∧ (∀ k, k < 12 → ef' k = ef k) ∧ (∀ k, k < 36 → bf' k = bf k) ∧ (∀ k, k < 6 → li' k = li k) ∧ (∀ k, k < 8 → be' k = be k) ∧ (∀ k, k < 8 → ho' k = ho k) ∧ (∀ k, k < 8 → af' k = af k) := by
  unfold fX1_takeFrom fX5_copyFrom
  simp only [nme_s, bd4_s]
  exact ⟨_, _, _, _, _, _, _, _, rfl, fun k hk => cpy_at _ _ hk, fun k hk => cpy_at _ _ hk, fun k hk => cpy_at _ _ hk, fun k hk => cpy_at _ _ hk, fun k hk => cpy_at _ _ hk, fun k hk => cpy_at _ _ hk, fun k hk => cpy_at _ _ hk, fun k hk => cpy_at _ _ hk⟩
theorem RelH.take {th sa hr : Int32} {il ro ef bf li : Nat → Int32} {cn : Int32} {be ho af : Nat → Int32} {mt : Int32} {bk ds ba ml : Nat → Int32} {ms : Int32} {si : Nat → Int32} (H : RelH th sa hr il ro ef bf li cn be ho af mt bk ds ba ml ms si) {il' ro' ef' bf' li' be' ho' af' : Nat → Int32} (e1 : ∀ k, k < 18 → il' k = il k) (e2 : ∀ k, k < 6 → ro' k = ro k) (e3 : ∀ k, k < 12 → ef' k = ef k) (e4 : ∀ k, k < 36 → bf' k = bf k) (e5 : ∀ k, k < 6 → li' k = li k) (e6 : ∀ k, k < 8 → be' k = be k) (e7 : ∀ k, k < 8 → ho' k = ho k) (e8 : ∀ k, k < 8 → af' k = af k) : RelH th sa hr il' ro' ef' bf' li' cn be' ho' af' mt bk ds ba ml ms si := by
  obtain ⟨⟨v1, v2, v3, v4, v5, v6, v7, v8, v9, v10, v11⟩, h1, h2, h3, h4, h5, h6, h7, h8, h9, h10⟩ := H
  refine ⟨⟨v1, v2, v3, fun k hk => by rw [e1 k hk]; exact v4 k hk, fun k hk => by rw [e2 k hk]; exact v5 k hk, fun k hk => by rw [e3 k hk]; exact v6 k hk, fun k hk => by rw [e4 k hk]; exact v7 k hk, fun k hk => by rw [e4 _ (by omega)]; exact v8 k hk, fun k hk => by rw [e5 k hk]; exact v9 k hk, v10, fun k hk => by rw [e6 k hk, e7 k hk, e8 k hk]; exact v11 k hk⟩, h1, fun k hk => by rw [e1 k hk]; exact h2 k hk, fun k hk => by rw [e2 k hk]; exact h3 k hk, h4, h5, fun k hk => by rw [e3 k hk]; exact h6 k hk, fun k hk => by rw [e4 k hk]; exact h7 k hk, fun k hk => by rw [e5 k hk]; exact h8 k hk, h9, fun k hk => by rw [e6 k hk, e7 k hk, e8 k hk]; exact h10 k hk⟩
theorem RelH.book {th sa hr : Int32} {il ro ef bf li : Nat → Int32} {cn : Int32} {be ho af : Nat → Int32} {mt : Int32} {bk ds ba ml : Nat → Int32} {ms : Int32} {si : Nat → Int32} (H : RelH th sa hr il ro ef bf li cn be ho af mt bk ds ba ml ms si) {bk' : Nat → Int32} (e : ∀ k, k < 26 → bk' k = bk k) : RelH th sa hr il ro ef bf li cn be ho af mt bk' ds ba ml ms si := by
  obtain ⟨⟨v1, v2, v3, v4, v5, v6, v7, v8, v9, v10, v11⟩, h1, h2, h3, h4, h5, h6, h7, h8, h9, h10⟩ := H
  exact ⟨⟨v1, v2, v3, v4, v5, v6, v7, v8, v9, v10, v11⟩, h1, fun k hk => by rw [e k (by omega)]; exact h2 k hk, fun k hk => by rw [e _ (by omega)]; exact h3 k hk, by rw [e _ (by omega)]; exact h4, by rw [e _ (by omega)]; exact h5, h6, h7, h8, h9, h10⟩
theorem go_sim {th sa hr : Int32} {il ro ef bf li : Nat → Int32} {cn : Int32} {be ho af : Nat → Int32} {mt : Int32} {bk ds ba ml : Nat → Int32} {ms : Int32} {si : Nat → Int32} (H : RelH th sa hr il ro ef bf li cn be ho af mt bk ds ba ml ms si) {sg pa : Nat → Int32} (hk : ∀ k, k < 60 → pa k = sg k) {n : Nat} (hn : n ≤ 60) (hF : fX8_faultOf_4 (nI n) pa FU 0 (nI 0) = some (Sum.inr 0)) (xa xw xh xwh xwp xt xs xr : Int32) (xil xro xef xbf xli : Nat → Int32) (xcn : Int32) (xbe xho xaf : Nat → Int32) (wa ww hh rs ac : Int32) (nw tn ah : Nat → Int32) :
    ∃ y r7 a2 h2 wa2 ww2 sa2 hr2 rs2 il2 ro2 ef2 bf2 li2 be2 ho2 af2 nw2 tn2 ah2, fX6_follow FU xa xw xh xwh xwp xt xs xr xil xro xef xbf xli xcn xbe xho xaf (nI n) sg th sa hr il ro ef bf li cn be ho af = some (a2, y, h2, wa2, ww2, th, sa2, hr2, il2, ro2, ef2, bf2, li2, cn, be2, ho2, af2) ∧ fX8_goCures FU mt (nI n) wa ww hh rs ac bk nw ds ba pa tn ah = some (r7, wa2, ww2, h2, rs2, a2, nw2, tn2, ah2) ∧ RelH th sa2 hr2 il2 ro2 ef2 bf2 li2 cn be2 ho2 af2 mt nw2 ds ba ml ms si ∧ ((y = 0 ∧ r7 = -6) ∨ (0 < y.toInt ∧ r7 = a2 ∧ 0 ≤ a2.toInt ∧ rs2 = y)) := by
  obtain ⟨il', ro', ef', bf', li', be', ho', af', e0, e1, e2, e3, e4, e5, e6, e7, e8⟩ := take_s xt xs xr xil xro xef xbf xli xcn xbe xho xaf th sa hr il ro ef bf li cn be ho af
  have H1 := (H.take e1 e2 e3 e4 e5 e6 e7 e8).book (bk' := cp26 bk nw) (fun k hk => cp26_at bk nw hk)
  have hv3 := H.1.2.2.1
  obtain ⟨y, a2, h2, wa2, ww2, sa2, hr2, il2, ro2, nw2, tn2, ah2, f0, f1, f2, f3⟩ := follow_sim (sg := sg) hk hn n 0 (by omega) FU FU FU (by have : FU = 8192 := rfl; omega) (by have : FU = 8192 := rfl; omega) hF (-1) 0 rs 0 (-6) (-6) sa hr il' ro' (cp26 bk nw) tn ah H1 (Or.inl rfl) (by decide) hv3.1 (by decide) (by decide)
  unfold fX6_follow fX6_start fX8_goCures fX8_begin
  rw [e0, bd12_s, bd17_s, show fX6_follow_10 FU (nI n) sg th ef' bf' FU (-1) 0 0 0 0 (-6) (-6) sa hr il' ro' = _ from f1, bd9_s, asNow_s, bd1_s, bd4_s]
  rcases f3 with ⟨rfl, rs2, f3⟩ | ⟨hy, f3⟩
  · rw [show fX8_goCures_11 FU (nI n) pa mt ds ba FU 0 (-6) (-6) 0 rs 0 (cp26 bk nw) tn ah = _ from f3, br8_r]
    exact ⟨0, _, _, _, _, _, _, _, _, _, _, _, _, _, _, _, _, _, _, _, rfl, rfl, f2, Or.inl ⟨rfl, rfl⟩⟩
  · rw [show fX8_goCures_11 FU (nI n) pa mt ds ba FU 0 (-6) (-6) 0 rs 0 (cp26 bk nw) tn ah = _ from f3, br8_l]
    exact ⟨y, _, _, _, _, _, _, _, _, _, _, _, _, _, _, _, _, _, _, _, rfl, rfl, f2, Or.inr ⟨hy, rfl, f0, rfl⟩⟩
theorem neg6 : (-6 : Int32) < 0 := by decide
theorem nlt0 {x : Int32} (h : 0 ≤ x.toInt) : ¬ x < 0 := fun e => by have := Int32.lt_iff_toInt_lt.mp e; have z : (0 : Int32).toInt = 0 := rfl; omega
theorem ne6 {x : Int32} (h : 0 ≤ x.toInt) : ¬ x = -6 := fun e => by rw [e] at h; revert h; decide
theorem ney {x : Int32} (h : 0 < x.toInt) : ¬ x = 0 := fun e => by rw [e] at h; revert h; decide
set_option maxHeartbeats 1000000 in
theorem ps_judge : PS_judge := by
  intro th sa hr il ro ef bf li cn be ho af le sg mo mt bk ds ba ml ms si sn pa mm xa xw xh xwh xwp xt xs xr xil xro xef xbf xli xcn xbe xho xaf wa ww hh rs ac nw tn ah hH hP hM a1
  obtain ⟨e, l, hk⟩ := hP
  subst e
  obtain ⟨n, hn, rfl⟩ := nI_of_toInt (n := 61) l.1 (by omega)
  obtain ⟨r, g1, g2, g3⟩ := fault_s hk (n := n) (by omega)
  unfold fX7_judge fX8_judge
  rw [among_in (v := a1) (n := 2) (m := 1) (by decide)]
  rcases in_cases a1 0 1 with ⟨g, -⟩ | ⟨g, -⟩
  · simp only [g, bd1_s, nme_s, if0, if1, if_true, if_false, Bool.false_eq_true, nI_1]
    exact ⟨_, _, _, _, _, _, _, _, _, _, _, _, _, _, _, _, _, _, _, _, _, _, _, _, _, _, rfl, rfl⟩
  simp only [g, bd1_s, nme_s, if0, if1, if_true, if_false, Bool.false_eq_true, nI_1, g1, g2]
  rcases g3 with ⟨rfl, hF⟩ | hr0
  · obtain ⟨y, r7, a2, h2, wa2, ww2, sa2, hr2, rs2, il2, ro2, ef2, bf2, li2, be2, ho2, af2, nw2, tn2, ah2, f1, f2, f3, f4⟩ := go_sim hH hk (n := n) (by omega) hF xa xw xh xwh xwp xt xs xr xil xro xef xbf xli xcn xbe xho xaf wa ww hh rs ac nw tn ah
    simp only [if_pos neg6, if_true, f1, f2, bd17_s, bd9_s]
    rcases f4 with ⟨rfl, rfl⟩ | ⟨hy, rfl, ha, rfl⟩
    · simp only [if_pos neg6, if_true]
      exact ⟨_, _, _, _, _, _, _, _, _, _, _, _, _, _, _, _, _, _, _, _, _, _, _, _, _, _, rfl, rfl⟩
    · simp only [if_neg (ney hy), if_neg (nlt0 ha)]
      by_cases c : a1 = 0
      · simp only [if_pos c]
        exact ⟨_, _, _, _, _, _, _, _, _, _, _, _, _, _, _, _, _, _, _, _, _, _, _, _, _, _, rfl, rfl⟩
      · simp only [if_neg c]
        exact ⟨_, _, _, _, _, _, _, _, _, _, _, _, _, _, _, _, _, _, _, _, _, _, _, _, _, _, rfl, rfl⟩
  · simp only [if_neg (ne6 hr0), if_neg (nlt0 hr0)]
    exact ⟨_, _, _, _, _, _, _, _, _, _, _, _, _, _, _, _, _, _, _, _, _, _, _, _, _, _, rfl, rfl⟩
