/-! the reference tries all codes -/
def rmC (c q : Nat) : Nat := dgR c (5 - q)
theorem rmC_lt (c q : Nat) : rmC c q < 4 := Nat.mod_lt _ (by decide)
def okp (H : Nat → Bool) (ρ : Nat → Nat) : Nat → Bool
  | 0 => true
  | k + 1 => okp H ρ k && (H k || decide (ρ k = 0))
theorem okp_congr {H : Nat → Bool} {ρ ρ' : Nat → Nat} : ∀ n, (∀ q, q < n → ρ q = ρ' q) → okp H ρ n = okp H ρ' n := by
  intro n
  induction n with
  | zero => intro _; rfl
  | succ n ih => intro h; rw [okp, okp, ih (fun q hq => h q (by omega)), h n (by omega)]
def stC (H : Nat → Bool) (Nf Df : (Nat → Nat) → Nat) (c : Nat) (s : Nat × Nat) : Nat × Nat := if okp H (rmC c) 6 = true then leafS Nf Df (rmC c) s else s
theorem foldR_add {st : Nat → Nat × Nat → Nat × Nat} : ∀ (a b c : Nat) (s : Nat × Nat), foldR st (a + b) c s = foldR st b (c + a) (foldR st a c s) := by
  intro a
  induction a with
  | zero => intro b c s; rw [Nat.zero_add, foldR, Nat.add_zero]
  | succ a ih => intro b c s; rw [show a + 1 + b = (a + b) + 1 by omega, foldR, ih, foldR, show c + 1 + a = c + (a + 1) by omega]
theorem block {H : Nat → Bool} {Nf Df : (Nat → Nat) → Nat} (hN : ∀ ρ ρ' : Nat → Nat, (∀ q, q < 6 → ρ q = ρ' q) → Nf ρ = Nf ρ') (hD : ∀ ρ ρ' : Nat → Nat, (∀ q, q < 6 → ρ q = ρ' q) → Df ρ = Df ρ') : ∀ (n k : Nat), k + n = 6 → ∀ (b : Nat) (ρ : Nat → Nat) (s : Nat × Nat), (∀ c, c / 4 ^ n = b → ∀ q, q < k → rmC c q = ρ q) → foldR (stC H Nf Df) (4 ^ n) (4 ^ n * b) s = if okp H ρ k = true then plF H Nf Df n k ρ s else s := by
  intro n
  induction n with
  | zero =>
    intro k hk b ρ s hρ
    obtain rfl : k = 6 := by omega
    have e := hρ b (by rw [Nat.pow_zero, Nat.div_one])
    rw [Nat.pow_zero, Nat.one_mul, foldR, foldR, plF]
    unfold stC leafS
    rw [okp_congr 6 e, hN _ _ e, hD _ _ e]
  | succ n ih =>
    intro k hk b ρ s hρ
    have sub : ∀ r, r < 4 → ∀ s, foldR (stC H Nf Df) (4 ^ n) (4 ^ n * (4 * b + r)) s = if (okp H ρ k && (H k || decide (r = 0))) = true then plF H Nf Df n (k + 1) (stR ρ k r) s else s := by
      intro r hr s
      have nx := ih (k + 1) (by omega) (4 * b + r) (stR ρ k r) s (fun c hc q hq => by
        unfold stR
        by_cases e : q = k
        · subst e
          rw [if_pos rfl]
          unfold rmC dgR
          rw [show 5 - q = n by omega, hc]
          omega
        · rw [if_neg e]
          exact hρ c (by rw [Nat.pow_succ, ← Nat.div_div_eq_div_mul, hc]; omega) q (by omega))
      rw [nx, okp, okp_congr (ρ' := ρ) k (fun q hq => by unfold stR; rw [if_neg (by omega)]), show stR ρ k r k = r by unfold stR; rw [if_pos rfl]]
    have st0 : 4 ^ (n + 1) * b = 4 ^ n * (4 * b + 0) := by rw [Nat.pow_succ, Nat.mul_assoc, Nat.add_zero]
    have q4 : 4 ^ (n + 1) = 4 ^ n + (4 ^ n + (4 ^ n + 4 ^ n)) := by rw [Nat.pow_succ]; omega
    have a1 : 4 ^ n * (4 * b + 0) + 4 ^ n = 4 ^ n * (4 * b + 1) := (Nat.mul_succ _ _).symm
    have a2 : 4 ^ n * (4 * b + 1) + 4 ^ n = 4 ^ n * (4 * b + 2) := (Nat.mul_succ _ _).symm
    have a3 : 4 ^ n * (4 * b + 2) + 4 ^ n = 4 ^ n * (4 * b + 3) := (Nat.mul_succ _ _).symm
    rw [st0, q4, foldR_add, sub 0 (by decide), a1, foldR_add, sub 1 (by decide), a2, foldR_add, sub 2 (by decide), a3, sub 3 (by decide)]
    cases okp H ρ k
    · simp
    · rw [plF]
      cases H k
      · simp
      · simp
theorem rmC_s {c q : Nat} (hc : c < 4096) (hq : q < 6) : (nI c >>> (((2 : Int32) * ((5 : Int32) - nI q)) &&& 31)) &&& 3 = nI (rmC c q) := by
  have e : (5 : Int32) - nI q = nI (5 - q) := sub_nI (a := 5) (by omega)
  rw [e]
  exact rc_dig (by omega) hc
theorem a50_loop {th : Int32} {c : Nat} (hc : c < 4096) : ∀ (d i : Nat), i + d = 6 → ∀ (fuel : Nat) (g : Nat → Int32), d < fuel → (∀ q, q < i → g (18 + q) = nI (rmC c q)) → ∃ g2, fX8_all_50 (nI c) th fuel (if okp (hb th) (rmC c) i = true then 1 else 0) (nI (dgF (hb th) (rmC c) i)) (nI i) g = some (if okp (hb th) (rmC c) 6 = true then 1 else 0, nI (dgF (hb th) (rmC c) 6), g2) ∧ (∀ q, q < 6 → g2 (18 + q) = nI (rmC c q)) ∧ (∀ k, k < 18 → g2 k = g k) ∧ g2 24 = g 24 := by
  intro d
  induction d with
  | zero =>
    intro i hi fuel g hf hg
    obtain ⟨m, rfl⟩ : ∃ m, fuel = m + 1 := ⟨fuel - 1, by omega⟩
    obtain rfl : i = 6 := by omega
    rw [fX8_all_50, if_pos (six_le rfl)]
    exact ⟨g, rfl, hg, fun _ _ => rfl, rfl⟩
  | succ d ih =>
    intro i hi fuel g hf hg
    obtain ⟨m, rfl⟩ : ∃ m, fuel = m + 1 := ⟨fuel - 1, by omega⟩
    have hi6 : i < 6 := by omega
    have r4 := rmC_lt c i
    have hj : (if (if okp (hb th) (rmC c) i = true then (1 : Int32) else 0) = 0 then some (0 : Int32) else (bd1 (fX8_has th (nI i)) fun r536 => bd1 (if r536 = 0 then (bd1 (if nI (rmC c i) = 0 then some (1 : Int32) else some 0) fun j550 => some j550) else some 1) fun j545 => some j545)) = some (if okp (hb th) (rmC c) (i + 1) = true then 1 else 0) := by
      have z0 : (nI (rmC c i) = 0) ↔ rmC c i = 0 := nI_eq (b := 0) (by omega) (by decide)
      rw [has_s, okp]
      cases okp (hb th) (rmC c) i
      · simp
      · cases hb th i
        · by_cases z : rmC c i = 0
          · simp [bd1_s, z, nI_0]
          · simp [bd1_s, z0, z]
        · simp [bd1_s]
    have hd : (if (if hb th i = true then (1 : Int32) else 0) = 0 then some (4 : Int32) else some (nI (rmC c i))) = some (nI (if hb th i = true then rmC c i else 4)) := by
      cases hb th i
      · simp only [bd1_s, nme_s, if0, if1, if_true, if_false, Bool.false_eq_true, nI_1]; rfl
      · simp only [bd1_s, nme_s, if0, if1, if_true, if_false, Bool.false_eq_true, nI_1]
    obtain ⟨g2, f1, f2, f3, f4⟩ := ih (i + 1) (by omega) m (upd g (18 + i) (nI (rmC c i))) (by omega) (fun q hq => by
      simp only [upd]
      by_cases e : q = i
      · subst e; rw [if_pos rfl]
      · rw [if_neg (by omega)]; exact hg q (by omega))
    refine ⟨g2, ?_, f2, fun k hk => ?_, ?_⟩
    · rw [fX8_all_50, if_neg (six_nle hi6), rmC_s hc hi6, nme_s, stI_at (iz18 i) (by omega) (by decide), hj, bd1_s, has_s, bd1_s, hd, bd1_s, nme_s, nme_s, ixn, nI_1]
      exact f1
    · rw [f3 k hk]; simp only [upd]; rw [if_neg (by omega)]
    · rw [f4]; simp only [upd]; rw [if_neg (by omega)]
theorem a170_loop {th : Int32} {nw : Nat → Int32} {g : Nat → Nat} (hg : ∀ p, p < 6 → hb th p = true → sI nw p = nI (g p)) : ∀ (d i : Nat), i + d = 6 → ∀ (fuel : Nat), d < fuel → fX8_all_170 th nw fuel (nI (sN (fun p => if hb th p = true then g p else 0) i)) (nI i) = some (nI (sN (fun p => if hb th p = true then g p else 0) 6)) := by
  intro d
  induction d with
  | zero =>
    intro i hi fuel hf
    obtain ⟨m, rfl⟩ : ∃ m, fuel = m + 1 := ⟨fuel - 1, by omega⟩
    obtain rfl : i = 6 := by omega
    rw [fX8_all_170, if_pos (six_le rfl)]
  | succ d ih =>
    intro i hi fuel hf
    obtain ⟨m, rfl⟩ : ∃ m, fuel = m + 1 := ⟨fuel - 1, by omega⟩
    have hi6 : i < 6 := by omega
    have nx := ih (i + 1) (by omega) m (by omega)
    rw [sN] at nx
    have hj : (if (if hb th i = true then (1 : Int32) else 0) = 0 then some (0 : Int32) else (bd1 (fX8_illsOf nw (nI i)) fun r740 => some r740)) = some (nI (if hb th i = true then g i else 0)) := by
      rw [millsOf_s nw hi6, bd1_s]
      cases e : hb th i
      · simp only [bd1_s, nme_s, if0, if1, if_true, if_false, Bool.false_eq_true, nI_1]; rfl
      · simp only [bd1_s, nme_s, if0, if1, if_true, if_false, Bool.false_eq_true, nI_1, hg i hi6 e]
    rw [fX8_all_170, if_neg (six_nle hi6), has_s, bd1_s, hj, bd1_s, nme_s, nme_s, nI_add, nI_1]
    exact nx
theorem sN_0 {f : Nat → Nat} : ∀ n, sN f n = 0 ↔ ∀ k, k < n → f k = 0 := by
  intro n
  induction n with
  | zero => exact ⟨fun _ k hk => by omega, fun _ => rfl⟩
  | succ n ih =>
    rw [sN]
    constructor
    · intro h k hk
      by_cases e : k = n
      · rw [e]; omega
      · exact ih.mp (by omega) k (by omega)
    · intro h
      have := ih.mpr (fun k hk => h k (by omega))
      have := h n (by omega)
      omega
theorem sN_le {f : Nat → Nat} {b : Nat} : ∀ n, (∀ k, k < n → f k ≤ b) → sN f n ≤ n * b := by
  intro n
  induction n with
  | zero => intro _; rw [sN]; omega
  | succ n ih =>
    intro h
    have a := ih (fun k hk => h k (by omega))
    have c := h n (by omega)
    rw [sN, Nat.succ_mul]; omega
