/-! THE FAULT -/
theorem piece_in (v : Int32) : fX2_isPiece v = fX8_in v 65 70 := by
  unfold fX2_isPiece fX8_in
  simp only [Int32.lt_iff_toInt_lt, Int32.le_iff_toInt_le]
  have e : ((71 : Int32).toInt ≤ v.toInt) = ((70 : Int32).toInt < v.toInt) := by
    have : (71 : Int32).toInt = 71 := by decide
    have : (70 : Int32).toInt = 70 := by decide
    apply propext; omega
  simp only [e]
theorem aim_in (v : Int32) : fX2_isAimOfPiece v = if v = 33 then some 1 else fX8_in v 97 100 := by
  unfold fX2_isAimOfPiece fX8_in
  simp only [Int32.lt_iff_toInt_lt, Int32.le_iff_toInt_le]
  have e : ((101 : Int32).toInt ≤ v.toInt) = ((100 : Int32).toInt < v.toInt) := by
    have : (101 : Int32).toInt = 101 := by decide
    have : (100 : Int32).toInt = 100 := by decide
    apply propext; omega
  simp only [e]
theorem in_no {v a b : Int32} (h : ¬ (a.toInt ≤ v.toInt ∧ v.toInt ≤ b.toInt)) : fX8_in v a b = some 0 := by
  rcases in_cases v a b with ⟨g, -⟩ | ⟨-, g⟩
  · exact g
  · exact absurd g h
theorem signAt_s (sg : Nat → Int32) {i : Nat} (h : i < 60) : fX2_signAt sg (nI i) = some (sg i) := by
  unfold fX2_signAt
  rw [show fX7_isAmong (nI i) 60 = _ from among_s (n := 60) (by omega) (by decide), if_pos h, bd1_s, if1, ldI_at (j := i) rfl h (by decide)]
theorem fault_loop {sg pa : Nat → Int32} (h : ∀ k, k < 60 → pa k = sg k) {n : Nat} (hn : n ≤ 60) : ∀ (d i : Nat), i + d = n → ∀ (fuel : Nat) (w : Int32), d < fuel → (w = 0 ∨ w = 1) → ∃ z, fX2_firstFault_4 (nI n) sg fuel w (nI i) = some z ∧ fX8_faultOf_4 (nI n) pa fuel w (nI i) = some z ∧ ((∃ j, j < n ∧ z = Sum.inl (nI j)) ∨ (z = Sum.inr 0 ∨ z = Sum.inr 1)) := by
  intro d
  induction d with
  | zero =>
    intro i hi fuel w hf hw
    obtain ⟨m, rfl⟩ : ∃ m, fuel = m + 1 := ⟨fuel - 1, by omega⟩
    rw [fX2_firstFault_4, fX8_faultOf_4, if_pos (nI_le (by omega) (by omega)), if_pos (nI_le (by omega) (by omega))]
    exact ⟨_, rfl, rfl, Or.inr (by rcases hw with rfl | rfl; exact Or.inl rfl; exact Or.inr rfl)⟩
  | succ d ih =>
    intro i hi fuel w hf hw
    obtain ⟨m, rfl⟩ : ∃ m, fuel = m + 1 := ⟨fuel - 1, by omega⟩
    have hi6 : i < 60 := by omega
    rw [fX2_firstFault_4, fX8_faultOf_4, if_neg (nI_ge (by omega) (by omega)), if_neg (nI_ge (by omega) (by omega)), signAt_s sg hi6, ldI_at (j := i) rfl hi6 (by decide), h i hi6, bd1_s]
    simp only [piece_in, aim_in]
    generalize sg i = x
    have z65 : (65 : Int32).toInt = 65 := by decide
    have z70 : (70 : Int32).toInt = 70 := by decide
    have z97 : (97 : Int32).toInt = 97 := by decide
    have z100 : (100 : Int32).toInt = 100 := by decide
    rcases hw with rfl | rfl
    · by_cases c : x = 46
      · have g : fX8_in x 65 70 = some 0 := by rw [c]; decide
        simp only [g, if_pos c, bd1_s, nme_s, if0, if1, if_true, if_false, Bool.false_eq_true, nI_1]
        exact ih (i + 1) (by omega) m 0 (by omega) (Or.inl rfl)
      · rcases in_cases x 65 70 with ⟨g, -⟩ | ⟨g, -⟩
        · simp only [g, if_neg c, bd1_s, nme_s, if0, if1, if_true, if_false, Bool.false_eq_true, nI_1]
          exact ⟨_, rfl, rfl, Or.inl ⟨i, by omega, rfl⟩⟩
        · simp only [g, if_neg c, bd1_s, nme_s, if0, if1, if_true, if_false, Bool.false_eq_true, nI_1]
          exact ih (i + 1) (by omega) m 1 (by omega) (Or.inr rfl)
    · by_cases c : x = 33
      · have g : fX8_in x 65 70 = some 0 := by rw [c]; decide
        simp only [g, if_pos c, bd1_s, nme_s, if0, if1, if_true, if_false, Bool.false_eq_true, nI_1]
        exact ih (i + 1) (by omega) m 0 (by omega) (Or.inl rfl)
      · rcases in_cases x 97 100 with ⟨g, -⟩ | ⟨g, g1, g2⟩
        · simp only [g, if_neg c, bd1_s, nme_s, if0, if1, if_true, if_false, Bool.false_eq_true, nI_1]
          exact ⟨_, rfl, rfl, Or.inl ⟨i, by omega, rfl⟩⟩
        · have g' : fX8_in x 65 70 = some 0 := in_no (by omega)
          simp only [g, g', if_neg c, bd1_s, nme_s, if0, if1, if_true, if_false, Bool.false_eq_true, nI_1]
          exact ih (i + 1) (by omega) m 0 (by omega) (Or.inl rfl)
/-- the fault: NONE, and then the text is whole, or a place -/
theorem fault_s {sg pa : Nat → Int32} (h : ∀ k, k < 60 → pa k = sg k) {n : Nat} (hn : n ≤ 60) : ∃ r, fX2_firstFault FU (nI n) sg = some r ∧ fX8_faultOf FU (nI n) pa = some r ∧ ((r = -6 ∧ fX8_faultOf_4 (nI n) pa FU 0 (nI 0) = some (Sum.inr 0)) ∨ 0 ≤ r.toInt) := by
  obtain ⟨z, g1, g2, g3⟩ := fault_loop h hn n 0 (by omega) FU 0 (by have : FU = 8192 := rfl; omega) (Or.inl rfl)
  unfold fX2_firstFault fX8_faultOf
  rw [show fX2_firstFault_4 (nI n) sg FU 0 0 = _ from g1, show fX8_faultOf_4 (nI n) pa FU 0 0 = _ from g2]
  rcases g3 with ⟨j, hj, rfl⟩ | rfl | rfl
  · simp only [br1_l]; exact ⟨_, rfl, rfl, Or.inr (by rw [nI_toInt (by omega)]; omega)⟩
  · simp only [br1_r, if0]; exact ⟨_, rfl, rfl, Or.inl ⟨rfl, g2⟩⟩
  · simp only [br1_r, if1]; exact ⟨_, rfl, rfl, Or.inr (by rw [nI_toInt (by omega)]; omega)⟩
theorem ps_fault : PS_fault := by
  intro th sa hr il ro ef bf li cn be ho af le sg mo mt bk ds ba ml ms si sn pa mm hH hP hM _
  obtain ⟨e, l, hk⟩ := hP
  subst e
  obtain ⟨n, hn, rfl⟩ := nI_of_toInt (n := 61) l.1 (by omega)
  obtain ⟨r, g1, g2, -⟩ := fault_s hk (n := n) (by omega)
  unfold fX7_fault fX8_fault
  rw [g1, g2]; simp only [bd1_s]
  exact ⟨_, rfl, rfl⟩
