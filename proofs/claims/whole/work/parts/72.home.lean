/-! when to send a piece home -/
theorem lg_lt (x y : Int64) : lg_cmp x y < 0 ↔ x < y := by
  have h := lg_ge x y
  constructor
  · intro e
    apply Int64.not_le.mp
    intro q
    have := h.mpr q
    exact absurd e (Int32.not_lt.mpr this)
  · intro e
    apply Int32.not_le.mp
    intro q
    exact absurd (h.mp q) (Int64.not_le.mpr e)
theorem tl10 : ∀ i : Nat, i < 10 → ((10 : Int32) - nI i).toInt64 = nL (10 - i) := by decide
theorem ixd : ∀ i : Nat, i < 10 → (if (0 : Int32) < nI i - 1 then nI i - 1 else 0) = nI (i - 1) ∧ (if nI i + 1 < (9 : Int32) then nI i + 1 else 9) = nI (if i = 9 then 9 else i + 1) ∧ (if nI i = 0 then some (0 : Int32) else some (nI i - 1)) = some (nI (i - 1)) ∧ (if nI i = 9 then some (9 : Int32) else some (nI i + 1)) = some (nI (if i = 9 then 9 else i + 1)) := by decide
theorem ixm (m j : Nat) : (10 : Int32) * nI (m + 1) - 10 + nI j = nI (10 * m + j) := by
  rw [show (10 : Int32) * nI (m + 1) = nI (10 * (m + 1)) from nI_mul 10 (m + 1), show (10 : Int32) = nI 10 from rfl, sub_nI (by omega), nI_add, show 10 * (m + 1) - 10 + j = 10 * m + j by omega]
theorem ixn (m j : Nat) : (10 : Int32) * nI m + nI j = nI (10 * m + j) := by
  rw [show (10 : Int32) * nI m = nI (10 * m) from nI_mul 10 m, nI_add]
theorem tenl {i : Nat} (h : i = 10) : (9 : Int32) < nI i ∧ (10 : Int32) ≤ nI i := by subst h; decide
theorem tenn : ∀ i : Nat, i < 10 → ¬ (9 : Int32) < nI i ∧ ¬ (10 : Int32) ≤ nI i := by decide
theorem paid_nn {k s : Nat} (hs : s < 2 ^ 40) : 0 ≤ (nL (10 - k) * nL s).toInt := by
  have : (10 - k) * s ≤ 10 * s := Nat.mul_le_mul_right s (by omega)
  rw [nL_mul, nL_toInt (by omega)]; omega
def mxL (a b : Int64) : Int64 := if a < b then b else a
theorem mxL_nn {a b : Int64} (h : 0 ≤ a.toInt) : 0 ≤ (mxL a b).toInt := by
  unfold mxL; split
  · rename_i q; have := Int64.lt_iff_toInt_lt.mp q; omega
  · exact h
theorem mxL_eq {a b : Int64} : (mxL a b = a) ↔ ¬ a < b := by
  unfold mxL
  by_cases q : a < b
  · rw [if_pos q]
    refine ⟨fun e => ?_, fun e => absurd q e⟩
    subst e; exact absurd (Int64.lt_iff_toInt_lt.mp q) (by omega)
  · rw [if_neg q]; exact ⟨fun _ => q, fun _ => rfl⟩
theorem updL_ne {g : Nat → Int64} {i k : Nat} {X : Int64} (h : k ≠ i) : vp_updL g i X k = g k := by simp only [vp_updL]; rw [if_neg h]
theorem updL_eq {g : Nat → Int64} {i k : Nat} {X : Int64} (h : k = i) : vp_updL g i X k = X := by simp only [vp_updL]; rw [if_pos h]
theorem day_loop {f : Nat → Int64} {c2 c3 vb : Int32} {s m va : Nat} (hm : m + 1 < 10) (hs : s < 2 ^ 40) (hva : va < 10) : ∀ (d i : Nat), i + d = 10 → ∀ (fc fm : Nat) (g t : Nat → Int64) (fl : Int32), d < fc → d < fm → (∀ k, k < 10 → t (10 * m + k) = f k) → (∀ k, k < i → g k = t (10 * (m + 1) + k) ∧ 0 ≤ (g k).toInt) → (nI (m + 1) = vb → va < i → fl = if g va = nL (10 - va) * nL s then 1 else 0) → ∃ g2 t2 fl2, fX0_weighDays_58 f c2 c3 (nL s) fc (nI i) g = some g2 ∧ fX8_home_100 (nL s) (nI (m + 1)) c2 c3 vb (nI va) fm fl (nI i) t = some (fl2, t2) ∧ (∀ k, k < 10 → g2 k = t2 (10 * (m + 1) + k) ∧ 0 ≤ (g2 k).toInt) ∧ (nI (m + 1) = vb → fl2 = if g2 va = nL (10 - va) * nL s then 1 else 0) := by
  intro d
  induction d with
  | zero =>
    intro i hi fc fm g t fl hfc hfm ht hg hfl
    obtain ⟨fc, rfl⟩ : ∃ m, fc = m + 1 := ⟨fc - 1, by omega⟩
    obtain ⟨fm, rfl⟩ : ∃ m, fm = m + 1 := ⟨fm - 1, by omega⟩
    rw [fX0_weighDays_58, fX8_home_100, if_pos (tenl (by omega)).1, if_pos (tenl (by omega)).2]
    exact ⟨_, _, _, rfl, rfl, fun k hk => hg k (by omega), fun e => hfl e (by omega)⟩
  | succ d ih =>
    intro i hi fc fm g t fl hfc hfm ht hg hfl
    obtain ⟨fc, rfl⟩ : ∃ m, fc = m + 1 := ⟨fc - 1, by omega⟩
    obtain ⟨fm, rfl⟩ : ∃ m, fm = m + 1 := ⟨fm - 1, by omega⟩
    have hi10 : i < 10 := by omega
    obtain ⟨x1, x2, x3, x4⟩ := ixd i hi10
    have hj : (if i = 9 then 9 else i + 1) < 10 := by split <;> omega
    rw [fX0_weighDays_58, fX8_home_100, if_neg (tenn i hi10).1, if_neg (tenn i hi10).2, nme_s, x1, ldL_at (j := i - 1) rfl (by omega) (by decide), nme_s, x2, ldL_at rfl (show (if i = 9 then 9 else i + 1) < 21 by omega) (by decide), nme_s]
    unfold fX0_paidNow
    rw [bd1_s, nme_s, tl10 i hi10, stL_at (j := i) rfl (by omega) (by decide), nme_s, nme_s, if_neg (show ¬ nI (m + 1) ≤ 0 from nI_ge (a := 0) (b := m + 1) (by omega) (by omega)), x3, x4, bd1_s, bd1_s, ldL_at (ixm m (i - 1)) (by omega) (by decide), ldL_at (ixm m _) (by omega) (by decide), nme_s, ht _ (by omega), ht _ hj, bd1_s]
    generalize (c2.toInt64 * f (i - 1) + ((10 : Int32) - c2).toInt64 * f (if i = 9 then 9 else i + 1)) - c3.toInt64 * nL s = y
    have hmx : (if nL (10 - i) * nL s < y then y else nL (10 - i) * nL s) = mxL (nL (10 - i) * nL s) y := rfl
    have hmx2 : (if lg_cmp (nL (10 - i) * nL s) y < 0 then some y else some (nL (10 - i) * nL s)) = some (mxL (nL (10 - i) * nL s) y) := by
      unfold mxL
      by_cases q : nL (10 - i) * nL s < y
      · rw [if_pos ((lg_lt _ _).mpr q), if_pos q]
      · rw [if_neg (fun e => q ((lg_lt _ _).mp e)), if_neg q]
    have hfl2 : (if lg_cmp (nL (10 - i) * nL s) y < 0 then some (0 : Int32) else some 1) = some (if mxL (nL (10 - i) * nL s) y = nL (10 - i) * nL s then 1 else 0) := by
      by_cases q : nL (10 - i) * nL s < y
      · rw [if_pos ((lg_lt _ _).mpr q), if_neg (fun e => mxL_eq.mp e q)]
      · rw [if_neg (fun e => q ((lg_lt _ _).mp e)), if_pos (mxL_eq.mpr q)]
    rw [hmx, hmx2, bd1_s, stL_at (ixn (m + 1) i) (by omega) (by decide), hfl2]
    have hnn : 0 ≤ (mxL (nL (10 - i) * nL s) y).toInt := mxL_nn (paid_nn hs)
    generalize hX : mxL (nL (10 - i) * nL s) y = X at *
    have ht2 : ∀ k, k < 10 → vp_updL t (10 * (m + 1) + i) X (10 * m + k) = f k := fun k hk => by
      simp only [vp_updL]; rw [if_neg (by omega)]; exact ht k hk
    have hg2 : ∀ k, k < i + 1 → vp_updL g i X k = vp_updL t (10 * (m + 1) + i) X (10 * (m + 1) + k) ∧ 0 ≤ (vp_updL g i X k).toInt := fun k hk => by
      simp only [vp_updL]
      by_cases e : k = i
      · rw [if_pos e, if_pos (by omega)]; exact ⟨rfl, hnn⟩
      · rw [if_neg e, if_neg (by omega)]; exact hg k (by omega)
    have nx := fun fl2 h => ih (i + 1) (by omega) fc fm (vp_updL g i X) (vp_updL t (10 * (m + 1) + i) X) fl2 (by omega) (by omega) ht2 hg2 h
    have keep : va ≠ i → nI (m + 1) = vb → va < i + 1 → fl = if vp_updL g i X va = nL (10 - va) * nL s then 1 else 0 := fun hne e hlt => by
      rw [updL_ne hne]; exact hfl e (by omega)
    by_cases e1 : nI (m + 1) = vb
    · rw [if_pos e1]
      by_cases e2 : i = va
      · rw [if_pos (show nI i = nI va by rw [e2])]
        simp only [bd1_s, nme_s, nI_1]
        exact nx _ (fun _ _ => by rw [updL_eq e2.symm, e2])
      · rw [if_neg (show ¬ nI i = nI va from fun q => e2 ((nI_eq (by omega) (by omega)).mp q))]
        simp only [bd1_s, nme_s, nI_1]
        exact nx fl (keep (fun q => e2 q.symm))
    · rw [if_neg e1]
      simp only [bd1_s, nme_s, nI_1]
      exact nx fl (fun q => absurd q e1)
theorem day0_loop {c2 c3 vb : Int32} {va : Nat} (hva : va < 10) : ∀ (d i : Nat), i + d = 10 → ∀ (fc fm : Nat) (g t : Nat → Int64) (fl : Int32), d < fc → d < fm → (∀ k, k < i → g k = t k ∧ 0 ≤ (g k).toInt) → (nI 0 = vb → va < i → fl = if g va = nL (10 - va) * nL 1 then 1 else 0) → ∃ g2 t2 fl2, fX0_weighDays_8 fc (nI i) g = some g2 ∧ fX8_home_100 (nL 1) (nI 0) c2 c3 vb (nI va) fm fl (nI i) t = some (fl2, t2) ∧ (∀ k, k < 10 → g2 k = t2 k ∧ 0 ≤ (g2 k).toInt) ∧ (nI 0 = vb → fl2 = if g2 va = nL (10 - va) * nL 1 then 1 else 0) := by
  intro d
  induction d with
  | zero =>
    intro i hi fc fm g t fl hfc hfm hg hfl
    obtain ⟨fc, rfl⟩ : ∃ m, fc = m + 1 := ⟨fc - 1, by omega⟩
    obtain ⟨fm, rfl⟩ : ∃ m, fm = m + 1 := ⟨fm - 1, by omega⟩
    rw [fX0_weighDays_8, fX8_home_100, if_pos (tenl (by omega)).1, if_pos (tenl (by omega)).2]
    exact ⟨_, _, _, rfl, rfl, fun k hk => hg k (by omega), fun e => hfl e (by omega)⟩
  | succ d ih =>
    intro i hi fc fm g t fl hfc hfm hg hfl
    obtain ⟨fc, rfl⟩ : ∃ m, fc = m + 1 := ⟨fc - 1, by omega⟩
    obtain ⟨fm, rfl⟩ : ∃ m, fm = m + 1 := ⟨fm - 1, by omega⟩
    have hi10 : i < 10 := by omega
    have e1' : nL (10 - i) * nL 1 = nL (10 - i) := by rw [nL_mul, Nat.mul_one]
    have hlt : ¬ lg_cmp (nL (10 - i)) (nL (10 - i)) < 0 := fun e => by
      have := Int64.lt_iff_toInt_lt.mp ((lg_lt _ _).mp e); omega
    rw [fX0_weighDays_8, fX8_home_100, if_neg (tenn i hi10).1, if_neg (tenn i hi10).2, tl10 i hi10, stL_at (j := i) rfl (by omega) (by decide), nme_s, nme_s, if_pos (show nI 0 ≤ 0 by decide), bd1_s, e1', if_neg hlt, bd1_s, stL_at (ixn 0 i) (by omega) (by decide), if_neg hlt]
    have hnn : 0 ≤ (nL (10 - i)).toInt := by rw [nL_toInt (by omega)]; omega
    have hg2 : ∀ k, k < i + 1 → vp_updL g i (nL (10 - i)) k = vp_updL t (10 * 0 + i) (nL (10 - i)) k ∧ 0 ≤ (vp_updL g i (nL (10 - i)) k).toInt := fun k hk => by
      by_cases e : k = i
      · rw [updL_eq e, updL_eq (by omega)]; exact ⟨rfl, hnn⟩
      · rw [updL_ne e, updL_ne (by omega)]; exact hg k (by omega)
    have nx := fun fl2 h => ih (i + 1) (by omega) fc fm (vp_updL g i (nL (10 - i))) (vp_updL t (10 * 0 + i) (nL (10 - i))) fl2 (by omega) (by omega) hg2 h
    by_cases e1 : nI 0 = vb
    · rw [if_pos e1]
      by_cases e2 : i = va
      · rw [if_pos (show nI i = nI va by rw [e2])]
        simp only [bd1_s, nme_s, nI_1]
        exact nx _ (fun _ _ => by rw [updL_eq e2.symm, ← e2, e1', if_pos rfl])
      · rw [if_neg (show ¬ nI i = nI va from fun q => e2 ((nI_eq (by omega) (by omega)).mp q))]
        simp only [bd1_s, nme_s, nI_1]
        exact nx fl (fun e hlt => by rw [updL_ne (fun q => e2 q.symm)]; exact hfl e (by omega))
    · rw [if_neg e1]
      simp only [bd1_s, nme_s, nI_1]
      exact nx fl (fun q => absurd q e1)
theorem days_loop {c2 c3 : Int32} {va n : Nat} (hva : va < 10) (hn : n ≤ 9) : ∀ (d j : Nat), j + d = n → ∀ (fc fm q1 q2 s : Nat) (f g t : Nat → Int64) (fl : Int32), d < fc → d < fm → 0 < s → s ≤ 10 ^ j → (∀ k, k < 10 → f k = t (10 * j + k) ∧ 0 ≤ (f k).toInt) → (nI j = nI n → fl = if f va = nL (10 - va) * nL s then 1 else 0) → ∃ p1 p2 s2 f2 g2 t2 fl2, 0 < s2 ∧ s2 < 2 ^ 40 ∧ fX0_weighDays_37 FU (nI n) c2 c3 fc (nI j) q1 q2 (nL s) f g = some (p1, p2, nL s2, f2, g2) ∧ fX8_home_74 FU (nI n) c2 c3 (nI va) fm (nL s) fl (nI (j + 1)) t = some (nL s2, fl2, t2) ∧ f2 va = t2 (10 * n + va) ∧ 0 ≤ (f2 va).toInt ∧ fl2 = if f2 va = nL (10 - va) * nL s2 then 1 else 0 := by
  intro d
  induction d with
  | zero =>
    intro j hj fc fm q1 q2 s f g t fl hfc hfm hs0 hs hf hfl
    obtain ⟨fc, rfl⟩ : ∃ m, fc = m + 1 := ⟨fc - 1, by omega⟩
    obtain ⟨fm, rfl⟩ : ∃ m, fm = m + 1 := ⟨fm - 1, by omega⟩
    obtain rfl : j = n := by omega
    have hp : 10 ^ j ≤ 10 ^ 9 := Nat.pow_le_pow_right (by omega) hn
    rw [fX0_weighDays_37, fX8_home_74, if_pos (nI_le (by omega) (by omega)), if_pos (nI_lt (by omega) (by omega))]
    exact ⟨_, _, s, _, _, _, _, hs0, by omega, rfl, rfl, (hf va hva).1, (hf va hva).2, hfl rfl⟩
  | succ d ih =>
    intro j hj fc fm q1 q2 s f g t fl hfc hfm hs0 hs hf hfl
    obtain ⟨fc, rfl⟩ : ∃ m, fc = m + 1 := ⟨fc - 1, by omega⟩
    obtain ⟨fm, rfl⟩ : ∃ m, fm = m + 1 := ⟨fm - 1, by omega⟩
    have hp : 10 ^ j ≤ 10 ^ 9 := Nat.pow_le_pow_right (by omega) (by omega)
    have hp2 : 10 ^ (j + 1) = 10 ^ j * 10 := Nat.pow_succ _ _
    obtain ⟨g2, t2, fl2, f1, f2, f3, f4⟩ := day_loop (f := f) (c2 := c2) (c3 := c3) (vb := nI n) (s := s * 10) (m := j) (by omega) (by omega) hva 10 0 rfl FU FU g t fl (by decide) (by decide) (fun k hk => (hf k hk).1.symm) (fun k hk => by omega) (fun _ h => by omega)
    rw [fX0_weighDays_37, fX8_home_74, if_neg (nI_ge (by omega) (by omega)), if_neg (nI_nlt (by omega) (by omega)), if_neg (show ¬ nI (j + 1) = 0 from fun e => by have := (nI_eq (b := 0) (by omega) (by decide)).mp e; omega), nme_s, bd1_s, nme_s, show nL s * 10 = nL (s * 10) from nL_mul s 10, show fX0_weighDays_58 f c2 c3 (nL (s * 10)) FU 0 g = _ from f1, show fX8_home_100 (nL (s * 10)) (nI (j + 1)) c2 c3 (nI n) (nI va) FU fl 0 t = _ from f2, bd1_s, bd2_s, nme_s, nI_1, nI_1]
    unfold fX0_swapRows
    rw [bd4_s, nme_s]
    exact ih (j + 1) (by omega) fc fm q2 q1 (s * 10) g2 f t2 fl2 (by omega) (by omega) (by omega) (by omega) f3 f4
theorem lg_eq (x y : Int64) : lg_cmp x y = 0 ↔ x = y := by
  unfold lg_cmp
  by_cases h : x > y
  · rw [if_pos h]
    constructor
    · intro e; exact absurd e (by decide)
    · intro e; subst e; exact absurd (Int64.lt_iff_toInt_lt.mp h) (by omega)
  · rw [if_neg h]
    by_cases h2 : x = y
    · rw [if_pos h2]; exact ⟨fun _ => h2, fun _ => rfl⟩
    · rw [if_neg h2]; exact ⟨fun e => absurd e (by decide), fun e => absurd e h2⟩
