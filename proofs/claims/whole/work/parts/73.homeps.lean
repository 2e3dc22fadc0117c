set_option maxHeartbeats 1000000 in
theorem ps_home : PS_home := by
  intro th sa hr il ro ef bf li cn be ho af le sg mo mt bk ds ba ml ms si sn pa mm q1 q2 sc crow cnext mw hH hP hM a1 a2 a3 a4 a5 a6
  unfold fX7_home fX8_home
  simp only [betw_in, among_in (v := a5) (n := 2) (m := 1) (by decide), among_in (v := a6) (n := 2) (m := 1) (by decide)]
  rcases in_cases a1 0 9 with ⟨e, -⟩ | ⟨e, b1, c1⟩
  · simp only [e, bd1_s, nme_s, if0, if1, if_true, if_false, Bool.false_eq_true, nI_1]; exact ⟨_, _, _, _, _, _, _, rfl, rfl⟩
  simp only [e, bd1_s, nme_s, if0, if1, if_true, if_false, Bool.false_eq_true, nI_1]
  rcases in_cases a2 0 9 with ⟨e, -⟩ | ⟨e, b2, c2⟩
  · simp only [e, bd1_s, nme_s, if0, if1, if_true, if_false, Bool.false_eq_true, nI_1]; exact ⟨_, _, _, _, _, _, _, rfl, rfl⟩
  simp only [e, bd1_s, nme_s, if0, if1, if_true, if_false, Bool.false_eq_true, nI_1]
  rcases in_cases a3 0 10 with ⟨e, -⟩ | ⟨e, -, -⟩
  · simp only [e, bd1_s, nme_s, if0, if1, if_true, if_false, Bool.false_eq_true, nI_1]; exact ⟨_, _, _, _, _, _, _, rfl, rfl⟩
  simp only [e, bd1_s, nme_s, if0, if1, if_true, if_false, Bool.false_eq_true, nI_1]
  rcases in_cases a4 0 9 with ⟨e, -⟩ | ⟨e, -, -⟩
  · simp only [e, bd1_s, nme_s, if0, if1, if_true, if_false, Bool.false_eq_true, nI_1]; exact ⟨_, _, _, _, _, _, _, rfl, rfl⟩
  simp only [e, bd1_s, nme_s, if0, if1, if_true, if_false, Bool.false_eq_true, nI_1]
  rcases in_cases a5 0 1 with ⟨e, -⟩ | ⟨e, -, -⟩
  · simp only [e, bd1_s, nme_s, if0, if1, if_true, if_false, Bool.false_eq_true, nI_1]; exact ⟨_, _, _, _, _, _, _, rfl, rfl⟩
  simp only [e, bd1_s, nme_s, if0, if1, if_true, if_false, Bool.false_eq_true, nI_1]
  rcases in_cases a6 0 1 with ⟨e, -⟩ | ⟨e, -, -⟩
  · simp only [e, bd1_s, nme_s, if0, if1, if_true, if_false, Bool.false_eq_true, nI_1]; exact ⟨_, _, _, _, _, _, _, rfl, rfl⟩
  simp only [e, bd1_s, nme_s, if0, if1, if_true, if_false, Bool.false_eq_true, nI_1]
  have z0 : (0 : Int32).toInt = 0 := by decide
  have z9 : (9 : Int32).toInt = 9 := by decide
  obtain ⟨va, hva, rfl⟩ := nI_of_toInt (n := 10) (x := a1) (by omega) (by omega)
  obtain ⟨n, hn, rfl⟩ := nI_of_toInt (n := 10) (x := a2) (by omega) (by omega)
  obtain ⟨g2, t2, fl2, f1, f2, f3, f4⟩ := day0_loop (c2 := a3) (c3 := a4) (vb := nI n) hva 10 0 rfl FU FU crow mw 1 (by decide) (by decide) (fun k hk => by omega) (fun _ h => by omega)
  obtain ⟨p1, p2, s2, r2, n2, t3, fl3, i1, i2, i3, i4, i5, i6, i7⟩ := days_loop (c2 := a3) (c3 := a4) hva (show n ≤ 9 by omega) n 0 (by omega) FU 8191 q1 q2 1 g2 cnext t2 fl2 (by have : FU = 8192 := rfl; omega) (by omega) (by decide) (by decide) (fun k hk => by rw [Nat.mul_zero, Nat.zero_add]; exact f3 k hk) f4
  have i3 : fX0_weighDays_37 FU (nI n) a3 a4 FU 0 q1 q2 1 g2 cnext = _ := i3
  have i4 : fX8_home_74 FU (nI n) a3 a4 (nI va) 8191 (nL 1) fl2 (0 + 1) t2 = _ := i4
  have f2 : fX8_home_100 (nL 1) 0 a3 a4 (nI n) (nI va) FU 1 0 mw = _ := f2
  have hfu : fX8_home_74 FU (nI n) a3 a4 (nI va) FU 1 1 0 mw = some (nL s2, fl3, t3) := by
    show fX8_home_74 FU (nI n) a3 a4 (nI va) (8191 + 1) 1 1 0 mw = _
    rw [fX8_home_74, if_neg (show ¬ nI n < 0 from nI_pos (by omega)), if_pos (show (0 : Int32) = 0 from rfl), bd1_s, nme_s, show (1 : Int64) * 1 = nL 1 from rfl, f2, bd2_s, nme_s]
    exact i4
  unfold fX0_weighDays
  rw [show fX0_weighDays_8 FU 0 crow = _ from f1, bd1_s, i3, bd5_s, bd5_s, hfu, bd3_s]
  by_cases c : a5 = 1
  · rw [if_pos c, if_pos c]
    unfold fX0_isSentAtOnce fX0_paidNow
    rw [ldL_at (j := va) rfl (by omega) (by decide), bd1_s, tl10 va hva]
    by_cases q : r2 va = nL (10 - va) * nL s2
    · rw [if_pos ((lg_eq _ _).mpr q)]
      rw [if_pos q] at i7
      subst i7
      simp only [bd1_s, if1]
      exact ⟨_, _, _, _, _, _, _, rfl, rfl⟩
    · rw [if_neg (fun e => q ((lg_eq _ _).mp e))]
      rw [if_neg q] at i7
      subst i7
      simp only [bd1_s, if0]
      exact ⟨_, _, _, _, _, _, _, rfl, rfl⟩
  · rw [if_neg c, if_neg c]
    unfold fX0_meanFor
    obtain ⟨r, g3, g4⟩ := part_s a6 i6 i1 i2
    rw [ldL_at (j := va) rfl (by omega) (by decide), g3, bd1_s, bd1_s, ldL_at (ixn n va) (by omega) (by decide), ← i5, g4, bd1_s]
    exact ⟨_, _, _, _, _, _, _, rfl, rfl⟩
