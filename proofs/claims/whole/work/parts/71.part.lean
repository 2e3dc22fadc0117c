/-! a part in lowest terms -/
def nL (a : Nat) : Int64 := Int64.ofNat a
theorem nL_toInt {a : Nat} (h : a < 2 ^ 63) : (nL a).toInt = a := Int64.toInt_ofNat_of_lt h
theorem nL_div {a b : Nat} (ha : a < 2 ^ 63) (hb : b < 2 ^ 63) : nL a / nL b = nL (a / b) := by
  apply Int64.toInt_inj.mp
  have hle : a / b ≤ a := Nat.div_le_self a b
  have e : ((a : Int).tdiv (b : Int)) = ((a / b : Nat) : Int) := by rw [Int.tdiv_eq_ediv_of_nonneg (by omega)]; rfl
  rw [Int64.toInt_div, nL_toInt ha, nL_toInt hb, e, nL_toInt (show a / b < 2 ^ 63 by omega)]
  clear e
  generalize a / b = q at hle ⊢
  exact Int.bmod_eq_of_le (by omega) (by omega)
theorem nL_add (a b : Nat) : nL a + nL b = nL (a + b) := by simp [nL]
theorem nL_mul (a b : Nat) : nL a * nL b = nL (a * b) := by simp [nL]
theorem nL_rem {a b : Nat} (ha : a < 2 ^ 63) (hb : b < 2 ^ 63) : nL a - nL a / nL b * nL b = nL (a % b) := by
  rw [nL_div ha hb, nL_mul]
  have h := Nat.div_add_mod a b
  have e : a / b * b = b * (a / b) := Nat.mul_comm _ _
  have h2 : nL a = nL (a % b) + nL (a / b * b) := by rw [nL_add]; congr 1; omega
  rw [h2, Int64.add_sub_cancel]
theorem nL_zero {a : Nat} (h : a < 2 ^ 63) : nL a = 0 ↔ a = 0 := by
  constructor
  · intro e
    have := congrArg Int64.toInt e
    rw [nL_toInt h] at this
    have z : (0 : Int64).toInt = 0 := by decide
    omega
  · intro e; subst e; rfl
theorem lg_z (x : Int64) : lg_cmp x 0 = 0 ↔ x = 0 := by
  unfold lg_cmp
  by_cases h : x > 0
  · rw [if_pos h]
    constructor
    · intro e; exact absurd e (by decide)
    · intro e; subst e; exact absurd h (by decide)
  · rw [if_neg h]
    by_cases h2 : x = 0
    · rw [if_pos h2]; exact ⟨fun _ => h2, fun _ => rfl⟩
    · rw [if_neg h2]; exact ⟨fun e => absurd e (by decide), fun e => absurd e h2⟩
theorem lg_ge (x y : Int64) : 0 ≤ lg_cmp x y ↔ y ≤ x := by
  unfold lg_cmp
  by_cases h : x > y
  · rw [if_pos h]; exact ⟨fun _ => Int64.le_of_lt h, fun _ => by decide⟩
  · rw [if_neg h]
    by_cases h2 : x = y
    · rw [if_pos h2]; exact ⟨fun _ => h2 ▸ Int64.le_refl _, fun _ => by decide⟩
    · rw [if_neg h2]
      refine ⟨fun e => absurd e (by decide), fun e => ?_⟩
      exact absurd (Int64.toInt_inj.mp (by
        have a1 := Int64.le_iff_toInt_le.mp e
        have a2 : ¬ y.toInt < x.toInt := fun q => h (Int64.lt_iff_toInt_lt.mpr q)
        omega)) h2
theorem rm_s {α : Type} {a b : Nat} {k : Int64 → Option α} (ha : a < 2 ^ 63) (hb : b < 2 ^ 63) (h : ¬ nL b = 0) : rmL (nL a) (nL b) k = k (nL (a % b)) := by
  unfold rmL; rw [if_neg h, nL_rem ha hb]
theorem dvL_s {α : Type} {a c : Int64} {k : Int64 → Option α} (h : ¬ c = 0) : dvL a c k = k (a / c) := by
  unfold dvL; rw [if_neg h]
theorem euclid : ∀ (n a b : Nat), b < 2 ^ n → b < 2 ^ 63 → a < 2 ^ 63 → ∀ (fc fm i : Nat), 2 * n + 1 ≤ fc → 2 * n + 1 ≤ fm → i + 2 * n ≤ 100 → fX0_commonDivisor_9 fc (nL a) (nL b) (nI i) = some (nL (Nat.gcd a b)) ∧ fX8_part_17 fm (nL a) (nL b) = some (nL (Nat.gcd a b)) := by
  intro n
  induction n with
  | zero =>
    intro a b hb hb62 ha fc fm i hfc hfm hi
    obtain ⟨fc, rfl⟩ : ∃ m, fc = m + 1 := ⟨fc - 1, by omega⟩
    obtain ⟨fm, rfl⟩ : ∃ m, fm = m + 1 := ⟨fm - 1, by omega⟩
    obtain rfl : b = 0 := by simp at hb; omega
    rw [fX0_commonDivisor_9, fX8_part_17, if_pos ((lg_z (nL 0)).mpr rfl), if_pos ((lg_z (nL 0)).mpr rfl), Nat.gcd_zero_right]
    exact ⟨by split <;> rfl, rfl⟩
  | succ n ih =>
    intro a b hb hb62 ha fc fm i hfc hfm hi
    obtain ⟨fc, rfl⟩ : ∃ m, fc = m + 1 + 1 := ⟨fc - 2, by omega⟩
    obtain ⟨fm, rfl⟩ : ∃ m, fm = m + 1 + 1 := ⟨fm - 2, by omega⟩
    by_cases z : b = 0
    · subst z
      rw [fX0_commonDivisor_9, fX8_part_17, if_pos ((lg_z (nL 0)).mpr rfl), if_pos ((lg_z (nL 0)).mpr rfl), Nat.gcd_zero_right]
      exact ⟨by split <;> rfl, rfl⟩
    · have hnz : ¬ nL b = 0 := fun e => z ((nL_zero (by omega)).mp e)
      have hn : ¬ lg_cmp (nL b) 0 = 0 := fun e => hnz ((lg_z _).mp e)
      have hr := Nat.mod_lt a (show 0 < b by omega)
      rw [fX0_commonDivisor_9, fX8_part_17, if_neg (show ¬ (100 : Int32) ≤ nI i from nI_ge (b := 100) (by omega) (by decide)), if_neg hn, if_neg hn]
      rw [rm_s (by omega) (by omega) hnz, rm_s (by omega) (by omega) hnz, nme_s, nI_1]
      have g1 : Nat.gcd a b = Nat.gcd b (a % b) := by rw [Nat.gcd_comm a b, Nat.gcd_rec b a, Nat.gcd_comm]
      rw [g1]
      generalize a % b = r at hr
      by_cases z2 : r = 0
      · subst z2
        rw [fX0_commonDivisor_9, fX8_part_17, if_pos ((lg_z (nL 0)).mpr rfl), if_pos ((lg_z (nL 0)).mpr rfl), Nat.gcd_zero_right]
        exact ⟨by split <;> rfl, rfl⟩
      · have hnz2 : ¬ nL r = 0 := fun e => z2 ((nL_zero (by omega)).mp e)
        have hn2 : ¬ lg_cmp (nL r) 0 = 0 := fun e => hnz2 ((lg_z _).mp e)
        have hr2 := Nat.mod_lt b (show 0 < r by omega)
        rw [fX0_commonDivisor_9, fX8_part_17, if_neg (show ¬ (100 : Int32) ≤ nI (i + 1) from nI_ge (b := 100) (by omega) (by decide)), if_neg hn2, if_neg hn2]
        rw [rm_s (by omega) (by omega) hnz2, rm_s (by omega) (by omega) hnz2, nme_s, nI_1]
        have g2 : Nat.gcd b r = Nat.gcd r (b % r) := by rw [Nat.gcd_comm b r, Nat.gcd_rec r b, Nat.gcd_comm]
        have hd := Nat.div_add_mod b r
        have h1 : 1 ≤ b / r := (Nat.le_div_iff_mul_le (by omega)).mpr (by omega)
        have h3 : r * 1 ≤ r * (b / r) := Nat.mul_le_mul_left r h1
        rw [g2]
        rw [Nat.pow_succ] at hb
        exact ih r (b % r) (by omega) (by omega) (by omega) fc fm (i + 1 + 1) (by omega) (by omega) (by omega)
theorem part_s {v : Int64} {s : Nat} (w : Int32) (hv0 : 0 ≤ v.toInt) (hs0 : 0 < s) (hs : s < 2 ^ 40) : ∃ r, fX0_partOf FU (nL s) v w = some r ∧ fX8_part FU v (nL s) w = some r := by
  have hv1 : v.toInt < 2 ^ 63 := v.toInt_lt
  obtain ⟨a, ha, rfl⟩ : ∃ a : Nat, a < 2 ^ 63 ∧ v = nL a := ⟨v.toInt.toNat, by omega, Int64.toInt_inj.mp (by rw [nL_toInt (by omega)]; omega)⟩
  obtain ⟨g1, g2⟩ := euclid 40 a s hs (by omega) ha FU FU 0 (by decide) (by decide) (by decide)
  have hg := Nat.gcd_pos_of_pos_right a hs0
  have hg2 := Nat.gcd_le_right a hs0
  have z0 : (0 : Int64).toInt = 0 := by decide
  have z1 : (1 : Int64).toInt = 1 := by decide
  have ea : (if 0 < nL a then nL a else -nL a) = nL a := by
    by_cases c : a = 0
    · subst c; decide
    · rw [if_pos (Int64.lt_iff_toInt_lt.mpr (by rw [nL_toInt (by omega), z0]; omega))]
  unfold fX0_partOf fX0_commonDivisor fX8_part
  rw [nme_s, ea, show fX0_commonDivisor_9 FU (nL a) (nL s) 0 = _ from g1, bd1_s, bd1_s, if_pos ((lg_ge (nL a) 0).mpr (Int64.le_iff_toInt_le.mpr (by rw [nL_toInt (by omega), z0]; omega))), bd1_s, g2, bd1_s]
  generalize Nat.gcd a s = g at hg hg2
  have hnz : ¬ nL g = 0 := fun e => by have := (nL_zero (by omega)).mp e; omega
  rw [if_pos ((lg_ge (nL g) 1).mpr (Int64.le_iff_toInt_le.mpr (by rw [nL_toInt (by omega), z1]; omega)))]
  by_cases c : w = 0
  · rw [if_pos c, dvL_s hnz]; exact ⟨_, rfl, rfl⟩
  · rw [if_neg c, dvL_s hnz]; exact ⟨_, rfl, rfl⟩
