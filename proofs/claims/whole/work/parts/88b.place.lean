/-! the class tries all ways in their order -/
def leafS (Nf Df : (Nat → Nat) → Nat) (ρ : Nat → Nat) (s : Nat × Nat) : Nat × Nat := if s.1 ≤ Nf ρ then s else (Nf ρ, Df ρ)
def plF (H : Nat → Bool) (Nf Df : (Nat → Nat) → Nat) : Nat → Nat → (Nat → Nat) → Nat × Nat → Nat × Nat
  | 0, _, ρ, s => leafS Nf Df ρ s
  | n + 1, k, ρ, s => if H k = true then plF H Nf Df n (k + 1) (stR ρ k 3) (plF H Nf Df n (k + 1) (stR ρ k 2) (plF H Nf Df n (k + 1) (stR ρ k 1) (plF H Nf Df n (k + 1) (stR ρ k 0) s))) else plF H Nf Df n (k + 1) (stR ρ k 0) s
theorem plF_zero {H : Nat → Bool} {Nf Df : (Nat → Nat) → Nat} : ∀ (n k : Nat) (ρ : Nat → Nat) (m : Nat), plF H Nf Df n k ρ (0, m) = (0, m) := by
  intro n
  induction n with
  | zero => intro k ρ m; rw [plF]; unfold leafS; rw [if_pos (Nat.zero_le _)]
  | succ n ih => intro k ρ m; rw [plF]; simp only [ih, ite_self]
theorem plF_le {H : Nat → Bool} {Nf Df : (Nat → Nat) → Nat} : ∀ (n k : Nat) (ρ : Nat → Nat) (s : Nat × Nat), (plF H Nf Df n k ρ s).1 ≤ s.1 := by
  intro n
  induction n with
  | zero =>
    intro k ρ s
    rw [plF]; unfold leafS
    split
    · exact Nat.le_refl _
    · rename_i h; exact Nat.le_of_lt (Nat.lt_of_not_le h)
  | succ n ih =>
    intro k ρ s
    rw [plF]
    split
    · exact Nat.le_trans (ih _ _ _) (Nat.le_trans (ih _ _ _) (Nat.le_trans (ih _ _ _) (ih _ _ _)))
    · exact ih _ _ _
def dgF (H : Nat → Bool) (ρ : Nat → Nat) : Nat → Nat
  | 0 => 0
  | k + 1 => 10 * dgF H ρ k + (if H k = true then ρ k else 4)
theorem dgF_congr {H : Nat → Bool} {ρ ρ' : Nat → Nat} : ∀ n, (∀ q, q < n → ρ q = ρ' q) → dgF H ρ n = dgF H ρ' n := by
  intro n
  induction n with
  | zero => intro _; rfl
  | succ n ih => intro h; rw [dgF, dgF, ih (fun q hq => h q (by omega)), h n (by omega)]
def foldR (step : Nat → Nat × Nat → Nat × Nat) : Nat → Nat → Nat × Nat → Nat × Nat
  | 0, _, s => s
  | d + 1, i, s => foldR step d (i + 1) (step i s)
theorem foldR_zero {step : Nat → Nat × Nat → Nat × Nat} (h0 : ∀ r m, step r (0, m) = (0, m)) : ∀ (d i m : Nat), foldR step d i (0, m) = (0, m) := by
  intro d
  induction d with
  | zero => intro i m; rfl
  | succ d ih => intro i m; rw [foldR, h0, ih]
theorem p46_loop {v3 th : Int32} {nd : Nat → Int32} {k dg : Nat} {step : Nat → Nat × Nat → Nat × Nat} {rec_ : Int32 → Int32 → (Nat → Int32) → Int32 → Int32 → Int32 → Int32 → Option (Int32 × Int32)} (hs : ∀ r, r < 4 → ∀ h m, h ≤ 1000 → rec_ (nI h) (nI m) nd th (nI k + 1) (v3 ||| ((1 : Int32) <<< (((nI r * 6) + nI k) &&& 31))) ((nI dg * 10) + nI r) = some (nI (step r (h, m)).1, nI (step r (h, m)).2)) (h0 : ∀ r m, step r (0, m) = (0, m)) (hle : ∀ r h m, (step r (h, m)).1 ≤ h) : ∀ (d i : Nat), i + d = 4 → ∀ (fuel h m : Nat), d < fuel → h ≤ 1000 → fX3_placeFrom_46 v3 (nI k) rec_ nd th (nI dg) fuel (nI i) (nI h) (nI m) = some (nI (foldR step d i (h, m)).1, nI (foldR step d i (h, m)).2) := by
  intro d
  induction d with
  | zero =>
    intro i hi fuel h m hf hh
    obtain ⟨f, rfl⟩ : ∃ f, fuel = f + 1 := ⟨fuel - 1, by omega⟩
    obtain rfl : i = 4 := by omega
    rw [fX3_placeFrom_46, if_pos (show (4 : Int32) ≤ nI 4 by decide), foldR]
  | succ d ih =>
    intro i hi fuel h m hf hh
    obtain ⟨f, rfl⟩ : ∃ f, fuel = f + 1 := ⟨fuel - 1, by omega⟩
    rw [fX3_placeFrom_46, if_neg (show ¬ (4 : Int32) ≤ nI i from nI_ge (b := 4) (by omega) (by decide))]
    by_cases c : h = 0
    · subst c
      rw [if_pos (show nI 0 ≤ 0 by decide), foldR_zero h0]
    · rw [if_neg (nI_nle (by omega) (by omega)), join_s, bd1_s, hs i (by omega) h m hh, bd2_s, nme_s, nI_1, foldR]
      have := hle i h m
      exact ih (i + 1) (by omega) f (step i (h, m)).1 (step i (h, m)).2 (by omega) (by omega)
theorem pf_s {th : Int32} {nd : Nat → Int32} {Nf : (Nat → Nat) → Nat} (hleaf : ∀ (ρ : Nat → Nat) (v3 : Int32), (∀ q, q < 6 → hb th q = true → ρ q < 4) → (∀ r, r < 4 → ∀ q, q < 6 → bt v3 (6 * r + q) = (decide (q < 6) && hb th q && decide (ρ q = r))) → fX3_weighWay_5 v3 nd FU 0 0 = some (nI (Nf ρ)) ∧ Nf ρ ≤ 1000) : ∀ (n k : Nat), k + n = 6 → ∀ (dp : Nat) (ρ : Nat → Nat) (v3 : Int32) (h m : Nat), n < dp → h ≤ 1000 → (∀ q, q < k → hb th q = true → ρ q < 4) → (∀ r, r < 4 → ∀ q, q < 6 → bt v3 (6 * r + q) = (decide (q < k) && hb th q && decide (ρ q = r))) → fX3_placeFrom FU dp (nI h) (nI m) nd th (nI k) v3 (nI (dgF (hb th) ρ k)) = some (nI (plF (hb th) Nf (fun ρ => dgF (hb th) ρ 6) n k ρ (h, m)).1, nI (plF (hb th) Nf (fun ρ => dgF (hb th) ρ 6) n k ρ (h, m)).2) := by
  intro n
  induction n with
  | zero =>
    intro k hk dp ρ v3 h m hd hh hρ hv
    obtain ⟨dp, rfl⟩ : ∃ f, dp = f + 1 := ⟨dp - 1, by omega⟩
    obtain rfl : k = 6 := by omega
    obtain ⟨e1, e2⟩ := hleaf ρ v3 hρ hv
    rw [fX3_placeFrom, if_neg (show ¬ nI 6 < 6 by decide)]
    unfold fX3_weighWay
    rw [e1, bd1_s, plF]
    unfold leafS
    by_cases c : h ≤ Nf ρ
    · rw [if_pos (nI_le c (by omega)), bd2_s, if_pos c]
    · rw [if_neg (nI_ge (by omega) (by omega)), bd2_s, if_neg c]
  | succ n ih =>
    intro k hk dp ρ v3 h m hd hh hρ hv
    obtain ⟨dp, rfl⟩ : ∃ f, dp = f + 1 := ⟨dp - 1, by omega⟩
    have hk6 : k < 6 := by omega
    have dgk : ∀ r, dgF (hb th) (stR ρ k r) k = dgF (hb th) ρ k := fun r => dgF_congr k (fun q hq => by unfold stR; rw [if_neg (by omega)])
    have sk : ∀ r, stR ρ k r k = r := fun r => by unfold stR; rw [if_pos rfl]
    rw [fX3_placeFrom, if_pos (show nI k < 6 from nI_lt (b := 6) hk6 (by decide)), plF]
    cases e : hb th k
    · have nx := ih (k + 1) (by omega) dp (stR ρ k 0) v3 h m (by omega) hh (fun q hq hx => by
        have hne : q ≠ k := fun z => by rw [z, e] at hx; cases hx
        unfold stR
        rw [if_neg hne]; exact hρ q (by omega) hx) (fun r hr q hq => by
        rw [hv r hr q hq]
        unfold stR
        by_cases c : q = k
        · subst c; rw [e, Bool.and_false, Bool.and_false, Bool.false_and, Bool.false_and]
        · rw [if_neg c]
          by_cases d : q < k
          · rw [decide_eq_true d, decide_eq_true (show q < k + 1 by omega)]
          · rw [decide_eq_false d, decide_eq_false (show ¬ q < k + 1 by omega)])
      rw [dgF, dgk, e, if_neg (by decide), ← ixn, Int32.mul_comm 10] at nx
      rw [if_pos (bit01_0 e), if_neg (by decide), nI_1, show nI (dgF (hb th) ρ k) * 10 + 4 = nI (dgF (hb th) ρ k) * 10 + nI 4 from rfl, nx, bd2_s]
    · have sw := p46_loop (v3 := v3) (th := th) (nd := nd) (k := k) (dg := dgF (hb th) ρ k) (step := fun r => plF (hb th) Nf (fun ρ => dgF (hb th) ρ 6) n (k + 1) (stR ρ k r)) (rec_ := fX3_placeFrom FU dp) (fun r hr h m hh => by
        have nx := ih (k + 1) (by omega) dp (stR ρ k r) _ h m (by omega) hh (fun q hq hx => by
          unfold stR
          by_cases c : q = k
          · rw [if_pos c]; exact hr
          · rw [if_neg c]; exact hρ q (by omega) hx) (join_st hk6 hr e hv)
        rw [dgF, dgk, sk, e, if_pos rfl, ← ixn, Int32.mul_comm 10] at nx
        rw [nI_1]
        exact nx) (fun r m => plF_zero _ _ _ _) (fun r h m => plF_le _ _ _ _) 4 0 rfl FU h m (by decide) hh
      rw [if_neg (show ¬ ((th >>> (nI k &&& 31)) &&& (1 : Int32)) = 0 by rw [bit01_1 e]; decide), if_pos rfl, show fX3_placeFrom_46 v3 (nI k) (fX3_placeFrom FU dp) nd th (nI (dgF (hb th) ρ k)) FU 0 (nI h) (nI m) = _ from sw, bd2_s]
      rfl
