theorem dg_low {k q : Nat} (h : q < k) (c b : Nat) : dgR (4 ^ k * c + b) q = dgR b q := by
  obtain ⟨m, rfl⟩ : ∃ m, k = q + (m + 1) := ⟨k - q - 1, by omega⟩
  unfold dgR
  rw [show 4 ^ (q + (m + 1)) * c + b = 4 ^ q * (4 ^ (m + 1) * c) + b by rw [Nat.pow_add, Nat.mul_assoc], Nat.mul_add_div (Nat.pow_pos (by decide)), Nat.pow_succ, Nat.mul_comm (4 ^ m) 4, Nat.mul_assoc, Nat.mul_add_mod]
theorem dg_at {k r b : Nat} (hr : r < 4) (hb' : b < 4 ^ k) : dgR (4 ^ k * r + b) k = r := by
  unfold dgR
  rw [Nat.mul_add_div (Nat.pow_pos (by decide)), Nat.div_eq_of_lt hb', Nat.add_zero, Nat.mod_eq_of_lt hr]
