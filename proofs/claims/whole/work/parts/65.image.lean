/-! images -/
theorem fX8_image_19_l (src : Nat → Int32) {y : Nat} (hy : y ≤ 120) : ∀ (d i : Nat), i + d = 26 → ∀ (fuel : Nat) (g : Nat → Int32), d < fuel → fX8_image_19 src (nI y) fuel (nI i) g = some (fun k => if y + i ≤ k ∧ k < y + 26 then src (k - (y)) else g k) := by
  intro d
  induction d with
  | zero =>
    intro i hi fuel g hf
    obtain ⟨m, rfl⟩ : ∃ m, fuel = m + 1 := ⟨fuel - 1, by omega⟩
    rw [fX8_image_19, if_pos (show 26 ≤ nI i from nI_le (a := 26) (by omega) (by omega))]
    congr 1; funext k; rw [if_neg (by omega)]
  | succ d ih =>
    intro i hi fuel g hf
    obtain ⟨m, rfl⟩ : ∃ m, fuel = m + 1 := ⟨fuel - 1, by omega⟩
    rw [fX8_image_19, if_neg (show ¬ 26 ≤ nI i from nI_ge (b := 26) (by omega) (by decide)), ldI_at (j := i) rfl (by omega) (by decide), stI_at (nI_add y i) (by omega) (by decide), nme_s, nI_1, ih (i + 1) (by omega) m _ (by omega)]
    congr 1; funext k; simp only [upd]
    by_cases h1 : k = y + i
    · rw [if_neg (by omega), if_pos h1, if_pos (by omega)]; congr 1; omega
    · rw [if_neg h1]
      by_cases h2 : y + i + 1 ≤ k ∧ k < y + 26
      · rw [if_pos (show y + (i + 1) ≤ k ∧ k < y + 26 by omega), if_pos (by omega)]
      · rw [if_neg (show ¬ (y + (i + 1) ≤ k ∧ k < y + 26) by omega), if_neg (by omega)]
theorem fX8_image_47_l (src : Nat → Int32) {y : Nat} (hy : y ≤ 120) : ∀ (d i : Nat), i + d = 12 → ∀ (fuel : Nat) (g : Nat → Int32), d < fuel → fX8_image_47 src (nI y) fuel (nI i) g = some (fun k => if y + 26 + i ≤ k ∧ k < y + 26 + 12 then src (k - (y + 26)) else g k) := by
  intro d
  induction d with
  | zero =>
    intro i hi fuel g hf
    obtain ⟨m, rfl⟩ : ∃ m, fuel = m + 1 := ⟨fuel - 1, by omega⟩
    rw [fX8_image_47, if_pos (show 12 ≤ nI i from nI_le (a := 12) (by omega) (by omega))]
    congr 1; funext k; rw [if_neg (by omega)]
  | succ d ih =>
    intro i hi fuel g hf
    obtain ⟨m, rfl⟩ : ∃ m, fuel = m + 1 := ⟨fuel - 1, by omega⟩
    rw [fX8_image_47, if_neg (show ¬ 12 ≤ nI i from nI_ge (b := 12) (by omega) (by decide)), ldI_at (j := i) rfl (by omega) (by decide), stI_at (show nI y + 26 + nI i = _ by rw [show (26 : Int32) = nI 26 from rfl, nI_add, nI_add]) (by omega) (by decide), nme_s, nI_1, ih (i + 1) (by omega) m _ (by omega)]
    congr 1; funext k; simp only [upd]
    by_cases h1 : k = y + 26 + i
    · rw [if_neg (by omega), if_pos h1, if_pos (by omega)]; congr 1; omega
    · rw [if_neg h1]
      by_cases h2 : y + 26 + i + 1 ≤ k ∧ k < y + 26 + 12
      · rw [if_pos (show y + 26 + (i + 1) ≤ k ∧ k < y + 26 + 12 by omega), if_pos (by omega)]
      · rw [if_neg (show ¬ (y + 26 + (i + 1) ≤ k ∧ k < y + 26 + 12) by omega), if_neg (by omega)]
theorem fX8_image_78_l (src : Nat → Int32) {y : Nat} (hy : y ≤ 120) : ∀ (d i : Nat), i + d = 36 → ∀ (fuel : Nat) (g : Nat → Int32), d < fuel → fX8_image_78 src (nI y) fuel (nI i) g = some (fun k => if y + 38 + i ≤ k ∧ k < y + 38 + 36 then src (k - (y + 38)) else g k) := by
  intro d
  induction d with
  | zero =>
    intro i hi fuel g hf
    obtain ⟨m, rfl⟩ : ∃ m, fuel = m + 1 := ⟨fuel - 1, by omega⟩
    rw [fX8_image_78, if_pos (show 36 ≤ nI i from nI_le (a := 36) (by omega) (by omega))]
    congr 1; funext k; rw [if_neg (by omega)]
  | succ d ih =>
    intro i hi fuel g hf
    obtain ⟨m, rfl⟩ : ∃ m, fuel = m + 1 := ⟨fuel - 1, by omega⟩
    rw [fX8_image_78, if_neg (show ¬ 36 ≤ nI i from nI_ge (b := 36) (by omega) (by decide)), ldI_at (j := i) rfl (by omega) (by decide), stI_at (show nI y + 38 + nI i = _ by rw [show (38 : Int32) = nI 38 from rfl, nI_add, nI_add]) (by omega) (by decide), nme_s, nI_1, ih (i + 1) (by omega) m _ (by omega)]
    congr 1; funext k; simp only [upd]
    by_cases h1 : k = y + 38 + i
    · rw [if_neg (by omega), if_pos h1, if_pos (by omega)]; congr 1; omega
    · rw [if_neg h1]
      by_cases h2 : y + 38 + i + 1 ≤ k ∧ k < y + 38 + 36
      · rw [if_pos (show y + 38 + (i + 1) ≤ k ∧ k < y + 38 + 36 by omega), if_pos (by omega)]
      · rw [if_neg (show ¬ (y + 38 + (i + 1) ≤ k ∧ k < y + 38 + 36) by omega), if_neg (by omega)]
theorem fX8_image_109_l (src : Nat → Int32) {y : Nat} (hy : y ≤ 120) : ∀ (d i : Nat), i + d = 6 → ∀ (fuel : Nat) (g : Nat → Int32), d < fuel → fX8_image_109 src (nI y) fuel (nI i) g = some (fun k => if y + 74 + i ≤ k ∧ k < y + 74 + 6 then src (k - (y + 74)) else g k) := by
  intro d
  induction d with
  | zero =>
    intro i hi fuel g hf
    obtain ⟨m, rfl⟩ : ∃ m, fuel = m + 1 := ⟨fuel - 1, by omega⟩
    rw [fX8_image_109, if_pos (show 6 ≤ nI i from nI_le (a := 6) (by omega) (by omega))]
    congr 1; funext k; rw [if_neg (by omega)]
  | succ d ih =>
    intro i hi fuel g hf
    obtain ⟨m, rfl⟩ : ∃ m, fuel = m + 1 := ⟨fuel - 1, by omega⟩
    rw [fX8_image_109, if_neg (show ¬ 6 ≤ nI i from nI_ge (b := 6) (by omega) (by decide)), ldI_at (j := i) rfl (by omega) (by decide), stI_at (show nI y + 74 + nI i = _ by rw [show (74 : Int32) = nI 74 from rfl, nI_add, nI_add]) (by omega) (by decide), nme_s, nI_1, ih (i + 1) (by omega) m _ (by omega)]
    congr 1; funext k; simp only [upd]
    by_cases h1 : k = y + 74 + i
    · rw [if_neg (by omega), if_pos h1, if_pos (by omega)]; congr 1; omega
    · rw [if_neg h1]
      by_cases h2 : y + 74 + i + 1 ≤ k ∧ k < y + 74 + 6
      · rw [if_pos (show y + 74 + (i + 1) ≤ k ∧ k < y + 74 + 6 by omega), if_pos (by omega)]
      · rw [if_neg (show ¬ (y + 74 + (i + 1) ≤ k ∧ k < y + 74 + 6) by omega), if_neg (by omega)]
theorem fX8_image_140_l (src : Nat → Int32) {y : Nat} (hy : y ≤ 120) : ∀ (d i : Nat), i + d = 24 → ∀ (fuel : Nat) (g : Nat → Int32), d < fuel → fX8_image_140 src (nI y) fuel (nI i) g = some (fun k => if y + 80 + i ≤ k ∧ k < y + 80 + 24 then src (k - (y + 80)) else g k) := by
  intro d
  induction d with
  | zero =>
    intro i hi fuel g hf
    obtain ⟨m, rfl⟩ : ∃ m, fuel = m + 1 := ⟨fuel - 1, by omega⟩
    rw [fX8_image_140, if_pos (show 24 ≤ nI i from nI_le (a := 24) (by omega) (by omega))]
    congr 1; funext k; rw [if_neg (by omega)]
  | succ d ih =>
    intro i hi fuel g hf
    obtain ⟨m, rfl⟩ : ∃ m, fuel = m + 1 := ⟨fuel - 1, by omega⟩
    rw [fX8_image_140, if_neg (show ¬ 24 ≤ nI i from nI_ge (b := 24) (by omega) (by decide)), ldI_at (j := i) rfl (by omega) (by decide), stI_at (show nI y + 80 + nI i = _ by rw [show (80 : Int32) = nI 80 from rfl, nI_add, nI_add]) (by omega) (by decide), nme_s, nI_1, ih (i + 1) (by omega) m _ (by omega)]
    congr 1; funext k; simp only [upd]
    by_cases h1 : k = y + 80 + i
    · rw [if_neg (by omega), if_pos h1, if_pos (by omega)]; congr 1; omega
    · rw [if_neg h1]
      by_cases h2 : y + 80 + i + 1 ≤ k ∧ k < y + 80 + 24
      · rw [if_pos (show y + 80 + (i + 1) ≤ k ∧ k < y + 80 + 24 by omega), if_pos (by omega)]
      · rw [if_neg (show ¬ (y + 80 + (i + 1) ≤ k ∧ k < y + 80 + 24) by omega), if_neg (by omega)]
theorem fX8_restore_31_l (im : Nat → Int32) {y : Nat} (hy : y ≤ 120) : ∀ (d i : Nat), i + d = 26 → ∀ (fuel : Nat) (g : Nat → Int32), d < fuel → fX8_restore_31 im (nI y) fuel (nI i) g = some (fun k => if i ≤ k ∧ k < 26 then im (y + k) else g k) := by
  intro d
  induction d with
  | zero =>
    intro i hi fuel g hf
    obtain ⟨m, rfl⟩ : ∃ m, fuel = m + 1 := ⟨fuel - 1, by omega⟩
    rw [fX8_restore_31, if_pos (show 26 ≤ nI i from nI_le (a := 26) (by omega) (by omega))]
    congr 1; funext k; rw [if_neg (by omega)]
  | succ d ih =>
    intro i hi fuel g hf
    obtain ⟨m, rfl⟩ : ∃ m, fuel = m + 1 := ⟨fuel - 1, by omega⟩
    rw [fX8_restore_31, if_neg (show ¬ 26 ≤ nI i from nI_ge (b := 26) (by omega) (by decide)), ldI_at (nI_add y i) (by omega) (by decide), stI_at (j := i) rfl (by omega) (by decide), nme_s, nI_1, ih (i + 1) (by omega) m _ (by omega)]
    congr 1; funext k; simp only [upd]
    by_cases h1 : k = i
    · subst h1; rw [if_neg (by omega), if_pos rfl, if_pos (by omega)]
    · rw [if_neg h1]
      by_cases h2 : i + 1 ≤ k ∧ k < 26
      · rw [if_pos h2, if_pos (by omega)]
      · rw [if_neg h2, if_neg (by omega)]
theorem fX8_restore_59_l (im : Nat → Int32) {y : Nat} (hy : y ≤ 120) : ∀ (d i : Nat), i + d = 12 → ∀ (fuel : Nat) (g : Nat → Int32), d < fuel → fX8_restore_59 im (nI y) fuel (nI i) g = some (fun k => if i ≤ k ∧ k < 12 then im (y + 26 + k) else g k) := by
  intro d
  induction d with
  | zero =>
    intro i hi fuel g hf
    obtain ⟨m, rfl⟩ : ∃ m, fuel = m + 1 := ⟨fuel - 1, by omega⟩
    rw [fX8_restore_59, if_pos (show 12 ≤ nI i from nI_le (a := 12) (by omega) (by omega))]
    congr 1; funext k; rw [if_neg (by omega)]
  | succ d ih =>
    intro i hi fuel g hf
    obtain ⟨m, rfl⟩ : ∃ m, fuel = m + 1 := ⟨fuel - 1, by omega⟩
    rw [fX8_restore_59, if_neg (show ¬ 12 ≤ nI i from nI_ge (b := 12) (by omega) (by decide)), ldI_at (show nI y + 26 + nI i = _ by rw [show (26 : Int32) = nI 26 from rfl, nI_add, nI_add]) (by omega) (by decide), stI_at (j := i) rfl (by omega) (by decide), nme_s, nI_1, ih (i + 1) (by omega) m _ (by omega)]
    congr 1; funext k; simp only [upd]
    by_cases h1 : k = i
    · subst h1; rw [if_neg (by omega), if_pos rfl, if_pos (by omega)]
    · rw [if_neg h1]
      by_cases h2 : i + 1 ≤ k ∧ k < 12
      · rw [if_pos h2, if_pos (by omega)]
      · rw [if_neg h2, if_neg (by omega)]
theorem fX8_restore_90_l (im : Nat → Int32) {y : Nat} (hy : y ≤ 120) : ∀ (d i : Nat), i + d = 36 → ∀ (fuel : Nat) (g : Nat → Int32), d < fuel → fX8_restore_90 im (nI y) fuel (nI i) g = some (fun k => if i ≤ k ∧ k < 36 then im (y + 38 + k) else g k) := by
  intro d
  induction d with
  | zero =>
    intro i hi fuel g hf
    obtain ⟨m, rfl⟩ : ∃ m, fuel = m + 1 := ⟨fuel - 1, by omega⟩
    rw [fX8_restore_90, if_pos (show 36 ≤ nI i from nI_le (a := 36) (by omega) (by omega))]
    congr 1; funext k; rw [if_neg (by omega)]
  | succ d ih =>
    intro i hi fuel g hf
    obtain ⟨m, rfl⟩ : ∃ m, fuel = m + 1 := ⟨fuel - 1, by omega⟩
    rw [fX8_restore_90, if_neg (show ¬ 36 ≤ nI i from nI_ge (b := 36) (by omega) (by decide)), ldI_at (show nI y + 38 + nI i = _ by rw [show (38 : Int32) = nI 38 from rfl, nI_add, nI_add]) (by omega) (by decide), stI_at (j := i) rfl (by omega) (by decide), nme_s, nI_1, ih (i + 1) (by omega) m _ (by omega)]
    congr 1; funext k; simp only [upd]
    by_cases h1 : k = i
    · subst h1; rw [if_neg (by omega), if_pos rfl, if_pos (by omega)]
    · rw [if_neg h1]
      by_cases h2 : i + 1 ≤ k ∧ k < 36
      · rw [if_pos h2, if_pos (by omega)]
      · rw [if_neg h2, if_neg (by omega)]
theorem fX8_restore_121_l (im : Nat → Int32) {y : Nat} (hy : y ≤ 120) : ∀ (d i : Nat), i + d = 6 → ∀ (fuel : Nat) (g : Nat → Int32), d < fuel → fX8_restore_121 im (nI y) fuel (nI i) g = some (fun k => if i ≤ k ∧ k < 6 then im (y + 74 + k) else g k) := by
  intro d
  induction d with
  | zero =>
    intro i hi fuel g hf
    obtain ⟨m, rfl⟩ : ∃ m, fuel = m + 1 := ⟨fuel - 1, by omega⟩
    rw [fX8_restore_121, if_pos (show 6 ≤ nI i from nI_le (a := 6) (by omega) (by omega))]
    congr 1; funext k; rw [if_neg (by omega)]
  | succ d ih =>
    intro i hi fuel g hf
    obtain ⟨m, rfl⟩ : ∃ m, fuel = m + 1 := ⟨fuel - 1, by omega⟩
    rw [fX8_restore_121, if_neg (show ¬ 6 ≤ nI i from nI_ge (b := 6) (by omega) (by decide)), ldI_at (show nI y + 74 + nI i = _ by rw [show (74 : Int32) = nI 74 from rfl, nI_add, nI_add]) (by omega) (by decide), stI_at (j := i) rfl (by omega) (by decide), nme_s, nI_1, ih (i + 1) (by omega) m _ (by omega)]
    congr 1; funext k; simp only [upd]
    by_cases h1 : k = i
    · subst h1; rw [if_neg (by omega), if_pos rfl, if_pos (by omega)]
    · rw [if_neg h1]
      by_cases h2 : i + 1 ≤ k ∧ k < 6
      · rw [if_pos h2, if_pos (by omega)]
      · rw [if_neg h2, if_neg (by omega)]
theorem fX8_restore_152_l (im : Nat → Int32) {y : Nat} (hy : y ≤ 120) : ∀ (d i : Nat), i + d = 24 → ∀ (fuel : Nat) (g : Nat → Int32), d < fuel → fX8_restore_152 im (nI y) fuel (nI i) g = some (fun k => if i ≤ k ∧ k < 24 then im (y + 80 + k) else g k) := by
  intro d
  induction d with
  | zero =>
    intro i hi fuel g hf
    obtain ⟨m, rfl⟩ : ∃ m, fuel = m + 1 := ⟨fuel - 1, by omega⟩
    rw [fX8_restore_152, if_pos (show 24 ≤ nI i from nI_le (a := 24) (by omega) (by omega))]
    congr 1; funext k; rw [if_neg (by omega)]
  | succ d ih =>
    intro i hi fuel g hf
    obtain ⟨m, rfl⟩ : ∃ m, fuel = m + 1 := ⟨fuel - 1, by omega⟩
    rw [fX8_restore_152, if_neg (show ¬ 24 ≤ nI i from nI_ge (b := 24) (by omega) (by decide)), ldI_at (show nI y + 80 + nI i = _ by rw [show (80 : Int32) = nI 80 from rfl, nI_add, nI_add]) (by omega) (by decide), stI_at (j := i) rfl (by omega) (by decide), nme_s, nI_1, ih (i + 1) (by omega) m _ (by omega)]
    congr 1; funext k; simp only [upd]
    by_cases h1 : k = i
    · subst h1; rw [if_neg (by omega), if_pos rfl, if_pos (by omega)]
    · rw [if_neg h1]
      by_cases h2 : i + 1 ≤ k ∧ k < 24
      · rw [if_pos h2, if_pos (by omega)]
      · rw [if_neg h2, if_neg (by omega)]
theorem ps_amongOut : PS_amongOut := by
  intro v hv
  rw [among_in (v := v) (n := 2) (m := 1) (by decide)]
  refine in_no (fun h => hv ?_)
  have z0 : (0 : Int32).toInt = 0 := by decide
  have z1 : (1 : Int32).toInt = 1 := by decide
  rcases (show v.toInt = 0 ∨ v.toInt = 1 by omega) with e | e
  · exact Or.inl (Int32.toInt_inj.mp e)
  · exact Or.inr (Int32.toInt_inj.mp e)
theorem ps_amongIn : PS_amongIn := by
  intro v hv
  rcases hv with rfl | rfl <;> decide
theorem in01_no {v : Int32} (hv : ¬ (v = 0 ∨ v = 1)) : fX8_in v 0 1 = some 0 := by
  rw [← among_in (v := v) (n := 2) (m := 1) (by decide)]; exact ps_amongOut v hv
theorem ps_imageOut : PS_imageOut := by
  intro mt ms bk ds ba ml si im ik v hv
  unfold fX8_image
  rw [in01_no hv, bd1_s, if0]
theorem ps_restoreOut : PS_restoreOut := by
  intro mt ms bk ds ba ml si im ik v hv
  unfold fX8_restore
  rw [in01_no hv, bd1_s, if0]
/-- what the reference keeps -/
theorem image_s (mt ms : Int32) (bk ds ba ml si im ik : Nat → Int32) {n : Nat} (hn : n < 2) : ∃ im2 ik2, fX8_image FU mt ms bk ds ba ml si im ik (nI n) = some (1, im2, ik2) ∧ ik2 n = 1 ∧ (∀ k, k ≠ n → ik2 k = ik k) ∧ (∀ k, k < 26 → im2 (120 * n + k) = bk k) ∧ (∀ k, k < 12 → im2 (120 * n + 26 + k) = ds k) ∧ (∀ k, k < 36 → im2 (120 * n + 38 + k) = ba k) ∧ (∀ k, k < 6 → im2 (120 * n + 74 + k) = ml k) ∧ (∀ k, k < 24 → im2 (120 * n + 80 + k) = si k) ∧ im2 (120 * n + 110) = mt ∧ im2 (120 * n + 111) = ms ∧ (∀ k, (k < 120 * n ∨ 120 * n + 120 ≤ k) → im2 k = im k) := by
  have ey : (120 : Int32) * nI n = nI (120 * n) := by rw [show (120 : Int32) = nI 120 from rfl, nI_mul]
  have hy : 120 * n ≤ 120 := by omega
  generalize hyn : 120 * n = y at *
  unfold fX8_image
  rw [show fX8_in (nI n) 0 1 = some 1 from in_nI (a := 0) (b := 1) (by omega) (by omega) (by decide), bd1_s, if1, nme_s, ey, show fX8_image_19 bk (nI y) FU 0 im = _ from fX8_image_19_l bk hy 26 0 rfl FU im (by decide), bd1_s, show ∀ g, fX8_image_47 ds (nI y) FU 0 g = _ from fun g => fX8_image_47_l ds hy 12 0 rfl FU g (by decide), bd1_s, show ∀ g, fX8_image_78 ba (nI y) FU 0 g = _ from fun g => fX8_image_78_l ba hy 36 0 rfl FU g (by decide), bd1_s, show ∀ g, fX8_image_109 ml (nI y) FU 0 g = _ from fun g => fX8_image_109_l ml hy 6 0 rfl FU g (by decide), bd1_s, show ∀ g, fX8_image_140 si (nI y) FU 0 g = _ from fun g => fX8_image_140_l si hy 24 0 rfl FU g (by decide), bd1_s, stI_at (j := y + 110) (show nI y + 110 = _ from nI_add y 110) (by omega) (by decide), stI_at (j := y + 111) (show nI y + 111 = _ from nI_add y 111) (by omega) (by decide), stI_at (j := n) rfl hn (by decide)]
  refine ⟨_, _, rfl, ?_, ?_, ?_, ?_, ?_, ?_, ?_, ?_, ?_, ?_⟩
  · simp only [upd]; rw [if_pos trivial]; decide
  · intro k hk; simp only [upd]; rw [if_neg hk]
  all_goals intros
  all_goals simp only [upd]
  all_goals (repeat' split)
  all_goals first | omega | rfl | (congr 1; omega) | (rename_i hq; exact absurd trivial hq) | (exfalso; simp_all)
theorem restore_s (mt ms : Int32) (bk ds ba ml si im ik : Nat → Int32) {n : Nat} (hn : n < 2) (hk : ik n = 1) : ∃ b2 d2 a2 l2 s2, fX8_restore FU mt ms bk ds ba ml si im ik (nI n) = some (1, im (120 * n + 110), im (120 * n + 111), b2, d2, a2, l2, s2) ∧ (∀ k, k < 26 → b2 k = im (120 * n + k)) ∧ (∀ k, k < 12 → d2 k = im (120 * n + 26 + k)) ∧ (∀ k, k < 36 → a2 k = im (120 * n + 38 + k)) ∧ (∀ k, k < 6 → l2 k = im (120 * n + 74 + k)) ∧ (∀ k, k < 24 → s2 k = im (120 * n + 80 + k)) := by
  have ey : (120 : Int32) * nI n = nI (120 * n) := by rw [show (120 : Int32) = nI 120 from rfl, nI_mul]
  have hy : 120 * n ≤ 120 := by omega
  generalize hyn : 120 * n = y at *
  unfold fX8_restore
  rw [show fX8_in (nI n) 0 1 = some 1 from in_nI (a := 0) (b := 1) (by omega) (by omega) (by decide), bd1_s, if1, ldI_at (j := n) rfl hn (by decide), hk, if1, nme_s, ey, show fX8_restore_31 im (nI y) FU 0 bk = _ from fX8_restore_31_l im hy 26 0 rfl FU bk (by decide), bd1_s, show fX8_restore_59 im (nI y) FU 0 ds = _ from fX8_restore_59_l im hy 12 0 rfl FU ds (by decide), bd1_s, show fX8_restore_90 im (nI y) FU 0 ba = _ from fX8_restore_90_l im hy 36 0 rfl FU ba (by decide), bd1_s, show fX8_restore_121 im (nI y) FU 0 ml = _ from fX8_restore_121_l im hy 6 0 rfl FU ml (by decide), bd1_s, show fX8_restore_152 im (nI y) FU 0 si = _ from fX8_restore_152_l im hy 24 0 rfl FU si (by decide), bd1_s, ldI_at (j := y + 110) (show nI y + 110 = _ from nI_add y 110) (by omega) (by decide), ldI_at (j := y + 111) (show nI y + 111 = _ from nI_add y 111) (by omega) (by decide)]
  refine ⟨_, _, _, _, _, rfl, ?_, ?_, ?_, ?_, ?_⟩
  all_goals intro k hk; rw [if_pos ⟨by omega, hk⟩]
theorem RelH.model {th sa hr : Int32} {il ro ef bf li : Nat → Int32} {cn : Int32} {be ho af : Nat → Int32} {mt : Int32} {bk ds ba ml : Nat → Int32} {ms : Int32} {si : Nat → Int32} (H : RelH th sa hr il ro ef bf li cn be ho af mt bk ds ba ml ms si) {mt' : Int32} {bk' ds' ba' ml' : Nat → Int32} {ms' : Int32} {si' : Nat → Int32} (e1 : mt' = mt) (e2 : ∀ k, k < 26 → bk' k = bk k) (e3 : ∀ k, k < 12 → ds' k = ds k) (e4 : ∀ k, k < 36 → ba' k = ba k) (e5 : ∀ k, k < 6 → ml' k = ml k) (e6 : ms' = ms) (e7 : ∀ k, k < 24 → si' k = si k) : RelH th sa hr il ro ef bf li cn be ho af mt' bk' ds' ba' ml' ms' si' := by
  obtain ⟨⟨v1, v2, v3, v4, v5, v6, v7, v8, v9, v10, v11⟩, h1, h2, h3, h4, h5, h6, h7, h8, h9, h10⟩ := H
  exact ⟨⟨v1, v2, v3, v4, v5, v6, v7, v8, v9, v10, v11⟩, e1.trans h1, fun k hk => (e2 k (by omega)).trans (h2 k hk), fun k hk => (e2 _ (by omega)).trans (h3 k hk), (e2 _ (by omega)).trans h4, (e2 _ (by omega)).trans h5, fun k hk => (e3 k hk).trans (h6 k hk), fun k hk => (e4 k hk).trans (h7 k hk), fun k hk => (e5 k hk).trans (h8 k hk), e6.trans h9, fun i hi => ⟨(e7 _ (by omega)).trans (h10 i hi).1, (e7 _ (by omega)).trans (h10 i hi).2.1, (e7 _ (by omega)).trans (h10 i hi).2.2⟩⟩
theorem ps_image0 : PS_image0 := by
  intro kt ks kh kil kro kef kbf kli kcn kbe kho kaf th sa hr il ro ef bf li cn be ho af mt ms bk ds ba ml si im ik hH
  obtain ⟨il', ro', ef', bf', li', be', ho', af', e0, e1, e2, e3, e4, e5, e6, e7, e8⟩ := take_s kt ks kh kil kro kef kbf kli kcn kbe kho kaf th sa hr il ro ef bf li cn be ho af
  obtain ⟨im2, ik2, g0, g1, g2, g3, g4, g5, g6, g7, g8, g9, g10⟩ := image_s mt ms bk ds ba ml si im ik (n := 0) (by decide)
  refine ⟨_, _, _, _, _, _, _, _, _, _, _, _, im2, ik2, e0, g0, ⟨g1, (hH.take e1 e2 e3 e4 e5 e6 e7 e8).model g8 g3 g4 g5 g6 g9 g7⟩, fun z hz => ?_⟩
  cases z with
  | none => exact (g2 1 (by decide)).trans hz
  | some z =>
    obtain ⟨z1, z2⟩ := hz
    refine ⟨(g2 1 (by decide)).trans z1, z2.model (g10 _ (by omega)) (fun k hk => g10 _ (by omega)) (fun k hk => g10 _ (by omega)) (fun k hk => g10 _ (by omega)) (fun k hk => g10 _ (by omega)) (g10 _ (by omega)) (fun k hk => g10 _ (by omega))⟩
theorem ps_restoreNo0 : PS_restoreNo0 := by
  intro mt ms bk ds ba ml si im ik hk
  unfold fX8_restore
  rw [show fX8_in 0 0 1 = some 1 from by decide, bd1_s, if1, ldI_at (i := 0) (j := 0) rfl (by decide) (by decide), hk, if0]
theorem ps_restore0 : PS_restore0 := by
  intro kt ks kh kil kro kef kbf kli kcn kbe kho kaf th sa hr il ro ef bf li cn be ho af mt ms bk ds ba ml si im ik hk hH
  obtain ⟨il', ro', ef', bf', li', be', ho', af', e0, e1, e2, e3, e4, e5, e6, e7, e8⟩ := take_s th sa hr il ro ef bf li cn be ho af kt ks kh kil kro kef kbf kli kcn kbe kho kaf
  obtain ⟨b2, d2, a2, l2, s2, g0, g1, g2, g3, g4, g5⟩ := restore_s mt ms bk ds ba ml si im ik (n := 0) (by decide) hk
  exact ⟨_, _, _, _, _, _, _, _, _, _, _, _, _, _, _, _, _, _, _, e0, g0, (hH.take e1 e2 e3 e4 e5 e6 e7 e8).model rfl g1 g2 g3 g4 rfl g5⟩
theorem ps_image1 : PS_image1 := by
  intro kt ks kh kil kro kef kbf kli kcn kbe kho kaf th sa hr il ro ef bf li cn be ho af mt ms bk ds ba ml si im ik hH
  obtain ⟨il', ro', ef', bf', li', be', ho', af', e0, e1, e2, e3, e4, e5, e6, e7, e8⟩ := take_s kt ks kh kil kro kef kbf kli kcn kbe kho kaf th sa hr il ro ef bf li cn be ho af
  obtain ⟨im2, ik2, g0, g1, g2, g3, g4, g5, g6, g7, g8, g9, g10⟩ := image_s mt ms bk ds ba ml si im ik (n := 1) (by decide)
  refine ⟨_, _, _, _, _, _, _, _, _, _, _, _, im2, ik2, e0, g0, ⟨g1, (hH.take e1 e2 e3 e4 e5 e6 e7 e8).model g8 g3 g4 g5 g6 g9 g7⟩, fun z hz => ?_⟩
  cases z with
  | none => exact (g2 0 (by decide)).trans hz
  | some z =>
    obtain ⟨z1, z2⟩ := hz
    refine ⟨(g2 0 (by decide)).trans z1, z2.model (g10 _ (by omega)) (fun k hk => g10 _ (by omega)) (fun k hk => g10 _ (by omega)) (fun k hk => g10 _ (by omega)) (fun k hk => g10 _ (by omega)) (g10 _ (by omega)) (fun k hk => g10 _ (by omega))⟩
theorem ps_restoreNo1 : PS_restoreNo1 := by
  intro mt ms bk ds ba ml si im ik hk
  unfold fX8_restore
  rw [show fX8_in 1 0 1 = some 1 from by decide, bd1_s, if1, ldI_at (i := 1) (j := 1) rfl (by decide) (by decide), hk, if0]
theorem ps_restore1 : PS_restore1 := by
  intro kt ks kh kil kro kef kbf kli kcn kbe kho kaf th sa hr il ro ef bf li cn be ho af mt ms bk ds ba ml si im ik hk hH
  obtain ⟨il', ro', ef', bf', li', be', ho', af', e0, e1, e2, e3, e4, e5, e6, e7, e8⟩ := take_s th sa hr il ro ef bf li cn be ho af kt ks kh kil kro kef kbf kli kcn kbe kho kaf
  obtain ⟨b2, d2, a2, l2, s2, g0, g1, g2, g3, g4, g5⟩ := restore_s mt ms bk ds ba ml si im ik (n := 1) (by decide) hk
  exact ⟨_, _, _, _, _, _, _, _, _, _, _, _, _, _, _, _, _, _, _, e0, g0, (hH.take e1 e2 e3 e4 e5 e6 e7 e8).model rfl g1 g2 g3 g4 rfl g5⟩
