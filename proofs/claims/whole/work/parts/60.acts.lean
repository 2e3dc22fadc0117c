theorem act_hour {th sa hr : Int32} {il ro ef bf li : Nat → Int32} {cn : Int32} {be ho af : Nat → Int32} {mt : Int32} {bk ds ba ml : Nat → Int32} {ms : Int32} {si : Nat → Int32} (H : RelH th sa hr il ro ef bf li cn be ho af mt bk ds ba ml ms si) {wa ww hh : Int32} (hw : wOK wa hh) (hh0 : 0 ≤ hh.toInt) (hh1 : hh.toInt ≤ hr.toInt) (acts why a : Int32) (tn ah : Nat → Int32) :
    (fX6_attempt FU acts why hh wa ww th sa hr il ro ef bf a 5 = some (acts, 4, hh, wa, ww, sa, hr, il, ro) ∧ fX8_pass FU mt wa ww hh bk ds ba tn ah = some (4, wa, ww, hh, bk, tn, ah)) ∨
    ∃ wa' ww' g2 g3 tn' ah', fX6_attempt FU acts why hh wa ww th sa hr il ro ef bf a 5 = some (acts + 1, 0, hh + 1, wa', ww', 0, hr + 1, g2, ro) ∧ fX8_pass FU mt wa ww hh bk ds ba tn ah = some (0, wa', ww', hh + 1, g3, tn', ah') ∧ RelH th 0 (hr + 1) g2 ro ef bf li cn be ho af mt g3 ds ba ml ms si ∧ wOK wa' (hh + 1) ∧ 0 ≤ (hh + 1).toInt ∧ (hh + 1).toInt ≤ (hr + 1).toInt := by
  have H0 := H
  obtain ⟨⟨v1, v2, v3, v4, v5, v6, v7, v8, v9, v10, v11⟩, h1, h2, h3, h4, h5, h6, h7, h8, h9, h10⟩ := H
  unfold fX6_attempt fX1_reasonAgainst fX8_pass
  rw [if_pos rfl, ldI_at (i := 25) (j := 25) rfl (by decide) (by decide), h5]
  have z99 : (99 : Int32).toInt = 99 := rfl
  have z1 : (1 : Int32).toInt = 1 := rfl
  by_cases c : hr.toInt < 99
  · right
    have hlt : hr < 99 := Int32.lt_iff_toInt_lt.mpr (by omega)
    have hne : ¬ hr = 99 := fun e => by rw [e] at c; omega
    obtain ⟨g2, e1, e2⟩ := passHour_s (th := th) (sa := sa) (hr := hr) (il := il) (ef := ef) v5 v8
    obtain ⟨g3, t3, f1, f2, f3, f4, f5⟩ := mhour_s (th := mt) (tn := tn) v5 h2 h3 h4 h6 h7
    obtain ⟨a3, k1, k2⟩ := ahead_loop (nw := bk) 6 0 rfl FU ah (by decide) (fun p hp => by omega)
    subst h1
    have es : hh.toInt + 1 = (hh + 1).toInt := (rng_sum (a := hh) (b := 1) (m := 99) (n := 1) hh0 (by omega) (by decide) (by decide) (by decide)).symm
    have es2 : hr.toInt + 1 = (hr + 1).toInt := (rng_sum (a := hr) (b := 1) (m := 99) (n := 1) v3.1 v3.2 (by decide) (by decide) (by decide)).symm
    have hk2 : ∀ p, p < 6 → a3 p = sI il p := fun p hp => by rw [k2 p hp, sI_eq h2 hp]
    have ho : ∀ p, p < 6 → sI g3 p = sI (hI mt sa il ro ef bf) p := fun p hp => sI_eq f2 hp
    have hwz := wz_rng mt il (hI mt sa il ro ef bf) 6
    have h45 : fX8_pass_45 mt g3 a3 hh FU 5 wa ww = some (wA wa (wz mt il (hI mt sa il ro ef bf) 6) hh, wW wa ww (wz mt il (hI mt sa il ro ef bf) 6)) := by
      rcases hw with rfl | ⟨w0, w1⟩
      · exact p45_loop (ww := ww) ho hk2 hh0 6 0 rfl FU (by decide)
      · have hn6 : ¬ wa = -6 := fun e => by rw [e] at w0; revert w0; decide
        rw [p45_out w0 (fun e => by rw [e] at w1; omega)]
        unfold wA wW; rw [if_neg hn6, if_neg hn6]
    have hnote : fX6_noteHour hh wa ww (wz mt il (hI mt sa il ro ef bf) 6) = some (hh + 1, wA wa (wz mt il (hI mt sa il ro ef bf) 6) hh, wW wa ww (wz mt il (hI mt sa il ro ef bf) 6)) := by
      unfold fX6_noteHour wA wW
      by_cases c1 : wa = -6
      · by_cases c2 : wz mt il (hI mt sa il ro ef bf) 6 = -6
        · simp only [if_pos c1, if_pos c2, bd2_s, nme_s]
        · simp only [if_pos c1, if_neg c2, bd2_s, nme_s]
      · simp only [if_neg c1, bd2_s, nme_s]
    rw [if_pos hlt, bd1_s, if0, if_pos rfl, e1, bd4_s, hnote, bd3_s, bd7_s, nme_s, if_neg hne, show fX8_pass_16 bk FU 0 ah = _ from k1, bd1_s, f1, bd2_s, h45, bd2_s, ldI_at (i := 25) (j := 25) rfl (by decide) (by decide), stI_at (i := 25) (j := 25) rfl (by decide) (by decide), nme_s]
    refine ⟨_, _, _, _, _, _, rfl, rfl, ?_, ?_, by omega, by omega⟩
    · refine H0.hour c e2 (fun k hk => ?_) (fun q hq => ?_) ?_ ?_
      · simp only [upd]; rw [if_neg (by omega), f2 k hk]
      · simp only [upd]; rw [if_neg (by omega), f3 q hq]
      · show (if 24 = 25 then _ else _) = _; rw [if_neg (by decide), f4]
      · show (if 25 = 25 then _ else _) = _; rw [if_pos rfl, f5, h5]
    · unfold wA
      rcases hw with rfl | ⟨w0, w1⟩
      · rw [if_pos rfl]
        split
        · exact Or.inl rfl
        · exact Or.inr ⟨hh0, by omega⟩
      · have hn6 : ¬ wa = -6 := fun e => by rw [e] at w0; revert w0; decide
        rw [if_neg hn6]; exact Or.inr ⟨w0, by omega⟩
  · left
    have he : hr = 99 := Int32.toInt_inj.mp (by omega)
    have hlt : ¬ hr < 99 := fun h => by have := Int32.lt_iff_toInt_lt.mp h; omega
    rw [if_neg hlt, bd1_s, if_neg (by decide), if_pos he]
    exact ⟨rfl, rfl⟩
theorem hb_sat {sa : Int32} {p : Nat} : fX8_has sa (nI p) = fX1_isSatIn sa (nI p) := by rw [has_s, sat_s]
theorem act_sit {th sa hr : Int32} {il ro ef bf li : Nat → Int32} {cn : Int32} {be ho af : Nat → Int32} {mt : Int32} {bk ds ba ml : Nat → Int32} {ms : Int32} {si : Nat → Int32} (H : RelH th sa hr il ro ef bf li cn be ho af mt bk ds ba ml ms si) {wa ww hh : Int32} (acts why a : Int32) :
    ∃ y sa' g3, fX6_attempt FU acts why hh wa ww th sa hr il ro ef bf a 4 = some (if y = 0 then acts + 1 else acts, y, hh, wa, ww, sa', hr, il, ro) ∧ fX8_sit mt bk a = some (y, g3) ∧ (y = 0 ∨ 0 < y.toInt) ∧ RelH th sa' hr il ro ef bf li cn be ho af mt g3 ds ba ml ms si := by
  have H0 := H
  obtain ⟨⟨v1, v2, v3, v4, v5, v6, v7, v8, v9, v10, v11⟩, h1, h2, h3, h4, h5, h6, h7, h8, h9, h10⟩ := H
  subst h1
  unfold fX6_attempt fX1_reasonAgainst fX8_sit
  rw [if_neg (by decide)]
  rcases there_cases mt a with ⟨g1, g2⟩ | ⟨p, hp, rfl, hbp, g1, g2⟩
  · rw [g1, g2]; simp only [bd1_s, nme_s, if0, if1, if_true, if_false, Bool.false_eq_true, nI_1]
    exact ⟨1, _, _, rfl, rfl, Or.inr (by decide), H0⟩
  rw [g1, g2]; simp only [bd1_s, nme_s, if0, if1, if_true, if_false, Bool.false_eq_true, nI_1]
  rw [ldI_at (i := 24) (j := 24) rfl (by decide) (by decide), h4, has_s, sat_s]
  cases hsp : hb sa p
  · simp only [bd1_s, nme_s, if0, if1, if_true, if_false, Bool.false_eq_true, nI_1]
    unfold fX1_perform
    rw [if_neg (by decide), if_pos rfl, nme_s, bd2_s, bd7_s, ldI_at (i := 24) (j := 24) rfl (by decide) (by decide), h4, stI_at (i := 24) (j := 24) rfl (by decide) (by decide)]
    refine ⟨0, _, _, by rw [if_pos rfl], rfl, Or.inl rfl, ⟨v1, or64 v2.1 v2.2 hp, v3, v4, v5, v6, v7, v8, v9, v10, v11⟩, rfl, ?_, ?_, ?_, ?_, h6, h7, h8, h9, h10⟩
    · intro k hk; simp only [upd]; rw [if_neg (by omega)]; exact h2 k hk
    · intro k hk; simp only [upd]; rw [if_neg (by omega)]; exact h3 k hk
    · show (if 24 = 24 then _ else _) = _; rw [if_pos rfl]
    · show (if 25 = 24 then _ else _) = _; rw [if_neg (by decide)]; exact h5
  · simp only [bd1_s, nme_s, if0, if1, if_true, if_false, Bool.false_eq_true, nI_1]
    rw [if_neg (by decide)]
    exact ⟨3, _, _, rfl, rfl, Or.inr (by decide), H0⟩
theorem act_walk {th sa hr : Int32} {il ro ef bf li : Nat → Int32} {cn : Int32} {be ho af : Nat → Int32} {mt : Int32} {bk ds ba ml : Nat → Int32} {ms : Int32} {si : Nat → Int32} (H : RelH th sa hr il ro ef bf li cn be ho af mt bk ds ba ml ms si) {wa ww hh : Int32} (acts why a : Int32) {r : Nat} (hr4 : r < 4) :
    ∃ y ro' g3, fX6_attempt FU acts why hh wa ww th sa hr il ro ef bf a (nI r) = some (if y = 0 then acts + 1 else acts, y, hh, wa, ww, sa, hr, il, ro') ∧ fX8_walk mt bk a (nI r) = some (y, g3) ∧ (y = 0 ∨ 0 < y.toInt) ∧ RelH th sa hr il ro' ef bf li cn be ho af mt g3 ds ba ml ms si := by
  have H0 := H
  obtain ⟨⟨v1, v2, v3, v4, v5, v6, v7, v8, v9, v10, v11⟩, h1, h2, h3, h4, h5, h6, h7, h8, h9, h10⟩ := H
  subst h1
  have n5 : ¬ nI r = 5 := fun e => by have := (nI_eq (b := 5) (by omega) (by decide)).mp e; omega
  have n4 : ¬ nI r = 4 := fun e => by have := (nI_eq (b := 4) (by omega) (by decide)).mp e; omega
  unfold fX6_attempt fX1_reasonAgainst fX8_walk
  rw [if_neg n5]
  rcases there_cases mt a with ⟨g1, g2⟩ | ⟨p, hp, rfl, hbp, g1, g2⟩
  · rw [g1, g2]; simp only [bd1_s, nme_s, if0, if1, if_true, if_false, Bool.false_eq_true, nI_1]
    exact ⟨1, _, _, rfl, rfl, Or.inr (by decide), H0⟩
  rw [g1, g2]; simp only [bd1_s, nme_s, if0, if1, if_true, if_false, Bool.false_eq_true, nI_1]
  rw [if_neg n4, ldI_at (j := p) rfl hp (by decide), ldI_at (iz18 p) (by omega) (by decide), h3 p hp]
  by_cases er : ro p = nI r
  · rw [if_pos er, if_pos er]; simp only [bd1_s, nme_s, if0, if1, if_true, if_false, Bool.false_eq_true, nI_1]
    rw [if_neg (by decide)]
    exact ⟨2, _, _, rfl, rfl, Or.inr (by decide), H0⟩
  rw [if_neg er, if_neg er, ldI_at (i := 24) (j := 24) rfl (by decide) (by decide), h4, has_s, sat_s]
  cases hsp : hb sa p
  · simp only [bd1_s, nme_s, if0, if1, if_true, if_false, Bool.false_eq_true, nI_1]
    unfold fX1_perform
    rw [if_neg n5, if_neg n4, stI_at (j := p) rfl hp (by decide), bd2_s, bd7_s, stI_at (iz18 p) (by omega) (by decide)]
    refine ⟨0, _, _, by rw [if_pos rfl], rfl, Or.inl rfl, ⟨v1, v2, v3, v4, ?_, v6, v7, v8, v9, v10, v11⟩, rfl, ?_, ?_, ?_, ?_, h6, h7, h8, h9, h10⟩
    · intro k hk; simp only [upd]; split
      · rw [nI_toInt (by omega)]; omega
      · exact v5 k hk
    · intro k hk; simp only [upd]; rw [if_neg (by omega)]; exact h2 k hk
    · intro k hk; simp only [upd]; by_cases e : k = p
      · rw [if_pos (by omega), if_pos e]
      · rw [if_neg (by omega), if_neg e]; exact h3 k hk
    · simp only [upd]; rw [if_neg (by omega)]; exact h4
    · simp only [upd]; rw [if_neg (by omega)]; exact h5
  · simp only [bd1_s, nme_s, if0, if1, if_true, if_false, Bool.false_eq_true, nI_1]
    rw [if_neg (by decide)]
    exact ⟨3, _, _, rfl, rfl, Or.inr (by decide), H0⟩
