theorem dm10 : ∀ j : Nat, j < 100 → nI j / 10 = nI (j / 10) ∧ nI j - nI j / 10 * 10 = nI (j % 10) := by decide +kernel
theorem dm100 : ∀ j : Nat, j < 500 → nI j / 100 = nI (j / 100) ∧ nI j - nI j / 100 * 100 = nI (j % 100) := by decide +kernel
theorem dm6 : ∀ j : Nat, j < 100 → nI j / 6 = nI (j / 6) ∧ nI j - nI j / 6 * 6 = nI (j % 6) := by decide +kernel
theorem sub_nI {a b : Nat} (h : b ≤ a) : nI a - nI b = nI (a - b) := by
  have : nI a = nI (a - b) + nI b := by rw [nI_add]; congr 1; omega
  rw [this, Int32.add_sub_cancel]
theorem among_s {j n : Nat} (hj : j < 2 ^ 31) (hn : n < 2 ^ 31) : fX7_isAmong (nI j) (nI n) = some (if j < n then 1 else 0) := by
  unfold fX7_isAmong
  rw [if_neg (nI_pos hj)]
  by_cases h : j < n
  · rw [if_neg (nI_ge h hn), if_pos h]
  · rw [if_pos (nI_le (by omega) hj), if_neg h]
theorem if_t {α : Type} {c : Prop} [Decidable c] {a b : α} (h : c) : (if c then a else b) = a := if_pos h
set_option maxHeartbeats 1000000 in
theorem ps_told : PS_told := by
  intro th sa hr il ro ef bf li cn be ho af le sg mo mt bk ds ba ml ms si sn pa mm hH hP hM a
  obtain ⟨⟨v1, v2, v3, v4, v5, v6, v7, v8, v9, v10, v11⟩, h1, h2, h3, h4, h5, h6, h7, h8, h9, h10⟩ := hH
  obtain ⟨e, -, -⟩ := hP
  subst h1 e h9
  unfold fX7_told fX8_told
  simp only [Int32.le_iff_toInt_le, Int32.lt_iff_toInt_lt]
  have y10 : (10 : Int32).toInt = 10 := by decide
  have y100 : (100 : Int32).toInt = 100 := by decide
  have y500 : (500 : Int32).toInt = 500 := by decide
  have y600 : (600 : Int32).toInt = 600 := by decide
  by_cases c1 : a.toInt < 10
  · rw [if_neg (by omega), if_pos (by omega), if_pos (by omega), if_pos (by omega), if_pos (by omega)]
    unfold fX7_tellCounts
    by_cases q0 : a = 0
    · simp only [if_pos q0, bd1_s]; exact ⟨_, rfl, rfl⟩
    by_cases q1 : a = 1
    · simp only [if_neg q0, if_pos q1, bd1_s]; exact ⟨_, rfl, rfl⟩
    by_cases q2 : a = 2
    · simp only [if_neg q0, if_neg q1, if_pos q2, bd1_s]; rw [ldI_at (i := 25) (j := 25) rfl (by decide) (by decide), h5]; exact ⟨_, rfl, rfl⟩
    by_cases q3 : a = 3
    · simp only [if_neg q0, if_neg q1, if_neg q2, if_pos q3, bd1_s]; exact ⟨_, rfl, rfl⟩
    by_cases q4 : a = 4
    · simp only [if_neg q0, if_neg q1, if_neg q2, if_neg q3, if_pos q4, bd1_s]; rw [ldI_at (i := 24) (j := 24) rfl (by decide) (by decide), h4]; exact ⟨_, rfl, rfl⟩
    simp only [if_neg q0, if_neg q1, if_neg q2, if_neg q3, if_neg q4, bd1_s]; exact ⟨_, rfl, rfl⟩
  by_cases c2 : a.toInt < 100
  · obtain ⟨j, hj, rfl⟩ := nI_of_toInt (n := 100) (x := a) (by omega) (by omega)
    have ej := nI_toInt (n := j) (by omega)
    rw [if_pos (by omega), if_neg (by omega), if_pos (by omega), if_pos (by omega), if_pos (by omega), if_neg (by omega)]
    obtain ⟨e1, e2⟩ := dm10 j hj
    have e3 : nI j / 10 - 1 = nI (j / 10 - 1) := by rw [e1]; exact sub_nI (b := 1) (by omega)
    rw [e2, e3]
    generalize hp : j / 10 - 1 = p
    generalize hq : j % 10 = q
    have hq10 : q < 10 := by omega
    have hp10 : p < 10 := by omega
    unfold fX7_tellPiece
    rcases there_cases mt (nI p) with ⟨g1, g2⟩ | ⟨p', hp', ep, -, g1, g2⟩
    · simp only [nme_s, g1, g2, bd1_s, if0]; exact ⟨_, rfl, rfl⟩
    have ep := (nI_eq (by omega) (by omega)).mp ep
    subst ep
    rw [show fX7_isAmong (nI q) 4 = _ from among_s (n := 4) (by omega) (by decide)]
    have y4 : (4 : Int32).toInt = 4 := by decide
    by_cases q4 : q < 4
    · simp only [nme_s, g1, g2, bd1_s, if1, if_t q4]
      rw [if_neg (by rw [nI_toInt (by omega)]; omega), bd1_s, bd1_s, if1]
      unfold fX1_tellOf
      by_cases q3 : q = 3
      · subst q3
        rw [if_pos (by decide), if_pos (by decide), ldI_at (j := p) rfl (by omega) (by decide), ldI_at (iz18 p) (by omega) (by decide), h3 p hp']
        exact ⟨_, rfl, rfl⟩
      · rw [if_neg (show ¬ 3 ≤ nI q from nI_ge (b := 3) (by omega) (by decide)), if_neg (show ¬ nI q = 3 from fun h => q3 ((nI_eq (b := 3) (by omega) (by decide)).mp h))]
        unfold fX1_illOf
        rw [ldI_at (ix3 p q) (by omega) (by decide), ldI_at (iy3 p q) (by omega) (by decide), h2 _ (by omega)]
        exact ⟨_, rfl, rfl⟩
    · simp only [nme_s, g1, g2, bd1_s, if1, if_neg q4]
      rw [if_pos (show Int32.toInt 4 ≤ (nI q).toInt by rw [nI_toInt (by omega)]; omega), bd1_s, bd1_s, if0]; simp only [if_true, bd1_s]
      exact ⟨_, rfl, rfl⟩
  by_cases c3 : a.toInt < 500
  · obtain ⟨j, hj, rfl⟩ := nI_of_toInt (n := 500) (x := a) (by omega) (by omega)
    have ej := nI_toInt (n := j) (by omega)
    rw [if_pos (by omega), if_pos (by omega), if_neg (by omega), if_pos (by omega), if_pos (by omega), if_neg (by omega)]
    obtain ⟨e1, e2⟩ := dm100 j hj
    have e3 : nI j / 100 - 1 = nI (j / 100 - 1) := by rw [e1]; exact sub_nI (b := 1) (by omega)
    rw [e2, e3]
    have hp : j / 100 - 1 < 4 := by omega
    generalize j / 100 - 1 = p at hp ⊢
    have hq : j % 100 < 100 := by omega
    generalize j % 100 = q at hq ⊢
    unfold fX7_tellRoom
    rw [show fX7_isAmong (nI p) 4 = _ from among_s (n := 4) (by omega) (by decide), show fX7_isAmong (nI q) 3 = _ from among_s (n := 3) (by omega) (by decide), if_pos hp, bd1_s, if1]
    have y3 : (3 : Int32).toInt = 3 := by decide
    by_cases q3 : q < 3
    · rw [if_pos q3, bd1_s, if1, if_neg (by rw [nI_toInt (by omega)]; omega), ldI_at (ix3 p q) (by omega) (by decide), ldI_at (iy3 p q) (by omega) (by decide), h6 _ (by omega)]
      exact ⟨_, rfl, rfl⟩
    · rw [if_neg q3, bd1_s, if0, if_pos (by rw [nI_toInt (by omega)]; omega)]
      exact ⟨_, rfl, rfl⟩
  by_cases c4 : a.toInt < 600
  · obtain ⟨j, hj, rfl⟩ := nI_of_toInt (n := 600) (x := a) (by omega) (by omega)
    have ej := nI_toInt (n := j) (by omega)
    rw [if_pos (by omega), if_pos (by omega), if_pos (by omega), if_neg (by omega), if_pos (by omega), if_neg (by omega)]
    rw [show nI j - 500 = nI (j - 500) from sub_nI (b := 500) (by omega)]
    have hk : j - 500 < 100 := by omega
    generalize j - 500 = k at hk ⊢
    obtain ⟨e1, e2⟩ := dm6 k hk
    rw [nme_s, e2, e1]
    unfold fX7_tellBad
    rw [show fX7_isAmong (nI (k / 6)) 6 = _ from among_s (n := 6) (by omega) (by decide), show fX7_isAmong (nI (k % 6)) 6 = _ from among_s (n := 6) (by omega) (by decide)]
    have y36 : (36 : Int32).toInt = 36 := by decide
    by_cases q : k < 36
    · rw [if_pos (by omega), if_pos (by omega), bd1_s, if1, bd1_s, if1, if_neg (show ¬ Int32.toInt 36 ≤ (nI k).toInt by rw [nI_toInt (by omega)]; omega)]
      by_cases e : nI (k / 6) = nI (k % 6)
      · rw [if_pos e, if_pos e]; exact ⟨_, rfl, rfl⟩
      · rw [if_neg e, if_neg e, ldI_at (ix6 (k / 6) (k % 6)) (by omega) (by decide), ldI_at (j := k) rfl q (by decide), show 6 * (k / 6) + k % 6 = k by omega, h7 k q]
        exact ⟨_, rfl, rfl⟩
    · rw [if_neg (by omega), bd1_s, if0, if_pos (by rw [nI_toInt (by omega)]; omega)]
      exact ⟨_, rfl, rfl⟩
  · rw [if_pos (by omega), if_pos (by omega), if_pos (by omega), if_pos (by omega), if_neg (by omega)]
    obtain ⟨j, hj, rfl⟩ := nI_of_toInt (n := 2 ^ 31) (x := a) (by omega) a.toInt_lt
    have ej := nI_toInt (n := j) (by omega)
    rw [show nI j - 600 = nI (j - 600) from sub_nI (b := 600) (by omega), show fX7_isAmong (nI (j - 600)) 6 = _ from among_s (n := 6) (by omega) (by decide)]
    have y605 : (605 : Int32).toInt = 605 := by decide
    rcases in_cases (nI j) 600 605 with ⟨g, q⟩ | ⟨g, q1, q2⟩
    · rw [g, if_neg (by omega), bd1_s, bd1_s, if0, if0]; exact ⟨_, rfl, rfl⟩
    · rw [g, if_pos (by omega), bd1_s, bd1_s, if1, if1, ldI_at (j := j - 600) rfl (by omega) (by decide), ldI_at (j := j - 600) rfl (by omega) (by decide), h8 _ (by omega)]
      exact ⟨_, rfl, rfl⟩
