def stR (ρ : Nat → Nat) (k r : Nat) (x : Nat) : Nat := if x = k then r else ρ x
/-- piece k in room r suits those before it -/
def suitF (H : Nat → Bool) (A T : Nat → Nat → Bool) (ρ : Nat → Nat) (k r : Nat) : Nat → Bool
  | 0 => true
  | x + 1 => (if H x = true then (if ρ x = r then !A x k else !T x k) else true) && suitF H A T ρ k r x
/-- how many ways to go on -/
def kW (H : Nat → Bool) (A T : Nat → Nat → Bool) (R : Nat) : Nat → Nat → (Nat → Nat) → Nat
  | 0, _, _ => 1
  | n + 1, k, ρ => if H k = true then sN (fun r => if suitF H A T ρ k r k = true then kW H A T R n (k + 1) (stR ρ k r) else 0) R else kW H A T R n (k + 1) (stR ρ k 0)
/-- two rooms swapped -/
def swp (a b r : Nat) : Nat := if r = a then b else if r = b then a else r
theorem swp_inj {a b r s : Nat} : swp a b r = swp a b s ↔ r = s := by
  unfold swp
  constructor
  · intro h; revert h; (repeat' split) <;> omega
  · intro h; rw [h]
theorem suitF_swp {H : Nat → Bool} {A T : Nat → Nat → Bool} {ρ ρ' : Nat → Nat} {k r a b : Nat} : ∀ n, (∀ x, x < n → H x = true → ρ' x = swp a b (ρ x)) → suitF H A T ρ' k (swp a b r) n = suitF H A T ρ k r n := by
  intro n
  induction n with
  | zero => intro _; rfl
  | succ n ih =>
    intro h
    rw [suitF, suitF, ih (fun x hx => h x (by omega))]
    cases e : H n
    · rfl
    · rw [h n (by omega) e]
      by_cases q : ρ n = r
      · rw [if_pos (swp_inj.mpr q), if_pos q]
      · rw [if_neg (fun z => q (swp_inj.mp z)), if_neg q]
