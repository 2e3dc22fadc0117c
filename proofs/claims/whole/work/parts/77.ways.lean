def pBase (th R c : Int32) (p : Nat) : Bool := if hb th p = true then !decide (R ≤ rcI c p) else decide (rcI c p = 0)
def okC (th v1 v2 R c : Int32) : Nat → Nat → Bool
  | 0, _ => true
  | d + 1, p => (pBase th R c p && prAll th v1 v2 c p (5 - p) (p + 1)) && okC th v1 v2 R c d (p + 1)
theorem w20_loop {th v1 v2 R c : Int32} : ∀ (d p : Nat), p + d = 6 → ∀ (fuel : Nat) (w : Bool), d < fuel → fX8_waysIn_20 FU c th R v2 v1 fuel (if w then 1 else 0) (nI p) = some (if w && okC th v1 v2 R c d p then 1 else 0) := by
  intro d
  induction d with
  | zero =>
    intro p hp fuel w hf
    obtain ⟨m, rfl⟩ : ∃ m, fuel = m + 1 := ⟨fuel - 1, by omega⟩
    rw [fX8_waysIn_20, if_pos (six_le (by omega)), okC, Bool.and_true]
  | succ d ih =>
    intro p hp fuel w hf
    obtain ⟨m, rfl⟩ : ∃ m, fuel = m + 1 := ⟨fuel - 1, by omega⟩
    have hp6 : p < 6 := by omega
    have w82 := w82_loop (th := th) (v1 := v1) (v2 := v2) (c := c) hp6 (5 - p) (p + 1) (by omega) (by omega) FU (w && pBase th R c p) (by have : FU = 8192 := rfl; omega)
    have nx := ih (p + 1) (by omega) m ((w && pBase th R c p) && prAll th v1 v2 c p (5 - p) (p + 1)) (by omega)
    have er : (c >>> (((2 : Int32) * nI p) &&& 31)) &&& 3 = rcI c p := rfl
    have hj : (if (if w = true then (1 : Int32) else 0) = 0 then some (0 : Int32) else (bd1 (fX8_has th (nI p)) fun r => bd1 (if r = 0 then (bd1 (if rcI c p = 0 then some (1 : Int32) else some 0) fun j => some j) else (bd1 (if R ≤ rcI c p then some (0 : Int32) else some 1) fun j => some j)) fun j => some j)) = some (if (w && pBase th R c p) = true then 1 else 0) := by
      rw [has_s]
      unfold pBase
      cases w
      · simp
      · cases hb th p
        · by_cases e : rcI c p = 0
          · simp [bd1_s, e]
          · simp [bd1_s, e]
        · by_cases e : R ≤ rcI c p
          · simp [bd1_s, e]
          · simp [bd1_s, e]
    rw [fX8_waysIn_20, if_neg (six_nle hp6), er, nme_s, hj, bd1_s, nme_s, nI_1, w82, bd1_s, nme_s, nx, okC, Bool.and_assoc, Bool.and_assoc, Bool.and_assoc]
def gC (th v1 v2 R : Int32) (c : Nat) : Nat := if okC th v1 v2 R (nI c) 6 0 then 1 else 0
theorem w6_loop {th v1 v2 R : Int32} : ∀ (d i : Nat), i + d = 4096 → ∀ (fuel : Nat), d < fuel → fX8_waysIn_6 FU th R v2 v1 fuel (nI (sN (gC th v1 v2 R) i)) (nI i) = some (nI (sN (gC th v1 v2 R) 4096)) := by
  intro d
  induction d with
  | zero =>
    intro i hi fuel hf
    obtain ⟨m, rfl⟩ : ∃ m, fuel = m + 1 := ⟨fuel - 1, by omega⟩
    obtain rfl : i = 4096 := by omega
    rw [fX8_waysIn_6, if_pos (show (4096 : Int32) ≤ nI 4096 by decide)]
  | succ d ih =>
    intro i hi fuel hf
    obtain ⟨m, rfl⟩ : ∃ m, fuel = m + 1 := ⟨fuel - 1, by omega⟩
    have w20 := w20_loop (th := th) (v1 := v1) (v2 := v2) (R := R) (c := nI i) 6 0 rfl FU true (by decide)
    rw [Bool.true_and] at w20
    have hg : (if (if okC th v1 v2 R (nI i) 6 0 = true then (1 : Int32) else 0) = 0 then some (0 : Int32) else some 1) = some (nI (gC th v1 v2 R i)) := by
      unfold gC
      cases okC th v1 v2 R (nI i) 6 0 <;> rfl
    rw [fX8_waysIn_6, if_neg (show ¬ (4096 : Int32) ≤ nI i from nI_ge (b := 4096) (by omega) (by decide)), show fX8_waysIn_20 FU (nI i) th R v2 v1 FU 1 0 = _ from w20, bd1_s, hg, bd1_s, nme_s, nme_s, nI_add, nI_1]
    exact ih (i + 1) (by omega) m (by omega)
theorem waysIn_s (th v1 v2 R : Int32) : fX8_waysIn FU th v1 v2 R = some (nI (sN (gC th v1 v2 R) 4096)) := by
  have := w6_loop (th := th) (v1 := v1) (v2 := v2) (R := R) 4096 0 rfl FU (by decide)
  unfold fX8_waysIn
  rw [show fX8_waysIn_6 FU th R v2 v1 FU 0 0 = _ from this, bd1_s]
/-- a sum over codes, its lowest digit taken first -/
theorem sN_dig (f : Nat → Nat) : ∀ m, sN f (4 * m) = sN (fun c => f (4 * c)) m + sN (fun c => f (4 * c + 1)) m + sN (fun c => f (4 * c + 2)) m + sN (fun c => f (4 * c + 3)) m := by
  intro m
  induction m with
  | zero => rfl
  | succ m ih =>
    rw [show 4 * (m + 1) = 4 * m + 1 + 1 + 1 + 1 by omega, sN, sN, sN, sN, ih, sN, sN, sN, sN]
    omega
