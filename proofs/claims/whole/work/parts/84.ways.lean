/-! the count of codes is the count of ways -/
theorem suitF_congr {H : Nat → Bool} {A T : Nat → Nat → Bool} {ρ ρ' : Nat → Nat} {k r : Nat} : ∀ n, (∀ x, x < n → ρ' x = ρ x) → suitF H A T ρ' k r n = suitF H A T ρ k r n := by
  intro n
  induction n with
  | zero => intro _; rfl
  | succ n ih => intro h; rw [suitF, suitF, ih (fun x hx => h x (by omega)), h n (by omega)]
theorem okY_congr {th v1 v2 : Int32} {R y : Nat} {ρ ρ' : Nat → Nat} (h : ∀ x, x ≤ y → ρ' x = ρ x) : okY th v1 v2 R ρ' y = okY th v1 v2 R ρ y := by
  unfold okY
  rw [h y (Nat.le_refl y), suitF_congr y (fun x hx => h x (by omega))]
def pfx (th v1 v2 : Int32) (R : Nat) (ρ : Nat → Nat) : Nat → Bool
  | 0 => true
  | k + 1 => okY th v1 v2 R ρ k && pfx th v1 v2 R ρ k
theorem pfx_iff {th v1 v2 : Int32} {R : Nat} {ρ : Nat → Nat} : ∀ k, pfx th v1 v2 R ρ k = true ↔ ∀ y, y < k → okY th v1 v2 R ρ y = true := by
  intro k
  induction k with
  | zero => exact ⟨fun _ y h => by omega, fun _ => rfl⟩
  | succ k ih =>
    rw [pfx, Bool.and_eq_true, ih]
    constructor
    · rintro ⟨a, b⟩ y hy
      by_cases e : y = k
      · rw [e]; exact a
      · exact b y (by omega)
    · intro h; exact ⟨h k (by omega), fun y hy => h y (by omega)⟩
theorem pfx_congr {th v1 v2 : Int32} {R : Nat} {ρ ρ' : Nat → Nat} : ∀ k, (∀ x, x < k → ρ' x = ρ x) → pfx th v1 v2 R ρ' k = pfx th v1 v2 R ρ k := by
  intro k
  induction k with
  | zero => intro _; rfl
  | succ k ih => intro h; rw [pfx, pfx, ih (fun x hx => h x (by omega)), okY_congr (fun x hx => h x (by omega))]
theorem swp_same (a r : Nat) : swp a a r = r := by unfold swp; (repeat' split) <;> omega
theorem kW_congr {H : Nat → Bool} {A T : Nat → Nat → Bool} {R : Nat} (hR : R ≤ 4) (h0 : 0 < R) (n k : Nat) {ρ ρ' : Nat → Nat} (h : ∀ x, x < k → ρ' x = ρ x) : kW H A T R n k ρ' = kW H A T R n k ρ :=
  kW_swp (a := 0) (b := 0) hR h0 h0 n k ρ ρ' (fun x hx _ => by rw [swp_same]; exact h x hx)
theorem okY_at {th v1 v2 : Int32} {R k r : Nat} {ρ : Nat → Nat} : okY th v1 v2 R (stR ρ k r) k = if hb th k = true then decide (r < R) && suitF (hb th) (fun p q => hb v1 (prN p q)) (fun p q => hb v2 (prN p q)) ρ k r k else decide (r = 0) := by
  have e : stR ρ k r k = r := by unfold stR; rw [if_pos rfl]
  unfold okY
  rw [e, suitF_congr (ρ := ρ) k (fun x hx => by unfold stR; rw [if_neg (by omega)])]
theorem link {th v1 v2 : Int32} {R : Nat} (hR : R ≤ 4) (h0 : 0 < R) : ∀ (n k : Nat), k + n = 6 → ∀ b, b < 4 ^ k → sN (fun c => gC th v1 v2 (nI R) (4 ^ k * c + b)) (4 ^ n) = if pfx th v1 v2 R (dgR b) k = true then kW (hb th) (fun p q => hb v1 (prN p q)) (fun p q => hb v2 (prN p q)) R n k (dgR b) else 0 := by
  intro n
  induction n with
  | zero =>
    intro k hk b hb'
    obtain rfl : k = 6 := by omega
    have e : okC th v1 v2 (nI R) (nI b) 6 0 = pfx th v1 v2 R (dgR b) 6 := by rw [Bool.eq_iff_iff, okC_dig hR hb', pfx_iff]
    rw [Nat.pow_zero, sN, sN, kW, Nat.mul_zero, Nat.zero_add, Nat.zero_add]
    unfold gC
    rw [e]
  | succ n ih =>
    intro k hk b hb'
    have s : ∀ r, r < 4 → sN (fun c => gC th v1 v2 (nI R) (4 ^ k * (4 * c + r) + b)) (4 ^ n) = if (okY th v1 v2 R (stR (dgR b) k r) k && pfx th v1 v2 R (dgR b) k) = true then kW (hb th) (fun p q => hb v1 (prN p q)) (fun p q => hb v2 (prN p q)) R n (k + 1) (stR (dgR b) k r) else 0 := by
      intro r hr
      have hm : 4 ^ k * r ≤ 4 ^ k * 3 := Nat.mul_le_mul_left _ (by omega)
      have hp : 4 ^ (k + 1) = 4 ^ k * 4 := Nat.pow_succ _ _
      have nx := ih (k + 1) (by omega) (4 ^ k * r + b) (by omega)
      have ec : ∀ x, x < k + 1 → dgR (4 ^ k * r + b) x = stR (dgR b) k r x := by
        intro x hx
        unfold stR
        by_cases c : x = k
        · subst c; rw [if_pos rfl, dg_at hr hb']
        · rw [if_neg c, dg_low (by omega)]
      rw [pfx, okY_congr (ρ := stR (dgR b) k r) (fun x hx => ec x (by omega)), pfx_congr (ρ := dgR b) k (fun x hx => dg_low hx r b), kW_congr hR h0 n (k + 1) ec] at nx
      rw [← nx]
      apply sN_ext
      intro c _
      show gC th v1 v2 (nI R) _ = gC th v1 v2 (nI R) _
      rw [show 4 ^ k * (4 * c + r) + b = 4 ^ (k + 1) * c + (4 ^ k * r + b) by rw [hp, Nat.mul_add, Nat.mul_assoc, Nat.add_assoc]]
    have s0 : sN (fun c => gC th v1 v2 (nI R) (4 ^ k * (4 * c) + b)) (4 ^ n) = _ := s 0 (by decide)
    have s1 := s 1 (by decide)
    have s2 := s 2 (by decide)
    have s3 := s 3 (by decide)
    rw [Nat.pow_succ, Nat.mul_comm (4 ^ n) 4, sN_dig, s0, s1, s2, s3]
    cases pfx th v1 v2 R (dgR b) k
    · simp
    · simp only [Bool.and_true, if_true, okY_at]
      rw [kW]
      cases hb th k
      · simp
      · rcases (show R = 1 ∨ R = 2 ∨ R = 3 ∨ R = 4 by omega) with rfl | rfl | rfl | rfl <;> simp [sN]
theorem ways_kW (th v1 v2 : Int32) {R : Nat} (hR : R ≤ 4) (h0 : 0 < R) : sN (gC th v1 v2 (nI R)) 4096 = kW (hb th) (fun p q => hb v1 (prN p q)) (fun p q => hb v2 (prN p q)) R 6 0 (dgR 0) := by
  have l := link (th := th) (v1 := v1) (v2 := v2) hR h0 6 0 rfl 0 (by decide)
  rw [pfx, if_pos rfl] at l
  rw [← l]
  apply sN_ext
  intro c _
  show gC th v1 v2 (nI R) c = gC th v1 v2 (nI R) (4 ^ 0 * c + 0)
  rw [Nat.pow_zero, Nat.one_mul, Nat.add_zero]
