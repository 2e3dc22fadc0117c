theorem sN_swp (F : Nat → Nat) {R a b : Nat} (hR : R ≤ 4) (ha : a < R) (hb' : b < R) : sN (fun r => F (swp a b r)) R = sN F R := by
  rcases (show R = 1 ∨ R = 2 ∨ R = 3 ∨ R = 4 by omega) with rfl | rfl | rfl | rfl <;>
  rcases (show a = 0 ∨ a = 1 ∨ a = 2 ∨ a = 3 by omega) with rfl | rfl | rfl | rfl <;>
  rcases (show b = 0 ∨ b = 1 ∨ b = 2 ∨ b = 3 by omega) with rfl | rfl | rfl | rfl <;>
  first | (exfalso; omega) | (simp [sN, swp] <;> omega) | (simp [sN, swp])
theorem sN_ext {F G : Nat → Nat} : ∀ n, (∀ k, k < n → F k = G k) → sN F n = sN G n := by
  intro n
  induction n with
  | zero => intro _; rfl
  | succ n ih => intro h; rw [sN, sN, ih (fun k hk => h k (by omega)), h n (by omega)]
theorem kW_swp {H : Nat → Bool} {A T : Nat → Nat → Bool} {R a b : Nat} (hR : R ≤ 4) (ha : a < R) (hb' : b < R) : ∀ (n k : Nat) (ρ ρ' : Nat → Nat), (∀ x, x < k → H x = true → ρ' x = swp a b (ρ x)) → kW H A T R n k ρ' = kW H A T R n k ρ := by
  intro n
  induction n with
  | zero => intro k ρ ρ' _; rfl
  | succ n ih =>
    intro k ρ ρ' h
    rw [kW, kW]
    cases e : H k
    · simp only [Bool.false_eq_true, if_false]
      refine ih (k + 1) _ _ (fun x hx hh => ?_)
      have hne : x ≠ k := fun q => by rw [q, e] at hh; cases hh
      unfold stR
      rw [if_neg hne, if_neg hne]
      exact h x (by omega) hh
    · simp only [if_true]
      rw [← sN_swp _ hR ha hb']
      apply sN_ext
      intro r hr
      rw [suitF_swp k h]
      have : kW H A T R n (k + 1) (stR ρ' k (swp a b r)) = kW H A T R n (k + 1) (stR ρ k r) := ih (k + 1) _ _ (fun x hx hh => by
        unfold stR
        by_cases q : x = k
        · rw [if_pos q, if_pos q]
        · rw [if_neg q, if_neg q]; exact h x (by omega) hh)
      rw [this]
