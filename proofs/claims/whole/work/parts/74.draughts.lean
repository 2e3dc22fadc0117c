/-! draughts -/
theorem tone_le {i : Nat} (h : i = 21) : (21 : Int32) ≤ nI i ∧ (20 : Int32) < nI i := by subst h; decide
theorem tone_nle {i : Nat} (h : i < 21) : ¬ (21 : Int32) ≤ nI i ∧ ¬ (20 : Int32) < nI i := ⟨nI_ge (b := 21) h (by decide), nI_nlt (a := 20) (by omega) (by decide)⟩
theorem clear_loop : ∀ (d i : Nat), i + d = 21 → ∀ (fc : Nat) (g : Nat → Int64), d < fc → (∀ k, k < i → g k = 0) → ∃ g2, fX0_clearRow_2 fc (nI i) g = some g2 ∧ ∀ k, k < 21 → g2 k = 0 := by
  intro d
  induction d with
  | zero =>
    intro i hi fc g hf hg
    obtain ⟨m, rfl⟩ : ∃ m, fc = m + 1 := ⟨fc - 1, by omega⟩
    rw [fX0_clearRow_2, if_pos (tone_le (by omega)).1]
    exact ⟨_, rfl, fun k hk => hg k (by omega)⟩
  | succ d ih =>
    intro i hi fc g hf hg
    obtain ⟨m, rfl⟩ : ∃ m, fc = m + 1 := ⟨fc - 1, by omega⟩
    rw [fX0_clearRow_2, if_neg (tone_nle (by omega)).1, stL_at (j := i) rfl (by omega) (by decide), nme_s, nI_1]
    refine ih (i + 1) (by omega) m _ (by omega) (fun k hk => ?_)
    by_cases e : k = i
    · rw [updL_eq e]
    · rw [updL_ne e]; exact hg k (by omega)
theorem mclear_loop : ∀ (d i : Nat), i + d = 21 → ∀ (fc : Nat) (g : Nat → Int64), d < fc → (∀ k, k < i → g k = 0) → ∃ g2, fX8_draughts_135 fc (nI i) g = some g2 ∧ ∀ k, k < 21 → g2 k = 0 := by
  intro d
  induction d with
  | zero =>
    intro i hi fc g hf hg
    obtain ⟨m, rfl⟩ : ∃ m, fc = m + 1 := ⟨fc - 1, by omega⟩
    rw [fX8_draughts_135, if_pos (tone_le (by omega)).1]
    exact ⟨_, rfl, fun k hk => hg k (by omega)⟩
  | succ d ih =>
    intro i hi fc g hf hg
    obtain ⟨m, rfl⟩ : ∃ m, fc = m + 1 := ⟨fc - 1, by omega⟩
    rw [fX8_draughts_135, if_neg (tone_nle (by omega)).1, stL_at (j := i) rfl (by omega) (by decide), nme_s, nI_1]
    refine ih (i + 1) (by omega) m _ (by omega) (fun k hk => ?_)
    by_cases e : k = i
    · rw [updL_eq e]
    · rw [updL_ne e]; exact hg k (by omega)
theorem mcopy_loop {u : Nat → Int64} : ∀ (d i : Nat), i + d = 21 → ∀ (fc : Nat) (g : Nat → Int64), d < fc → (∀ k, k < i → g k = u k) → ∃ g2, fX8_draughts_232 u fc (nI i) g = some g2 ∧ ∀ k, k < 21 → g2 k = u k := by
  intro d
  induction d with
  | zero =>
    intro i hi fc g hf hg
    obtain ⟨m, rfl⟩ : ∃ m, fc = m + 1 := ⟨fc - 1, by omega⟩
    rw [fX8_draughts_232, if_pos (tone_le (by omega)).1]
    exact ⟨_, rfl, fun k hk => hg k (by omega)⟩
  | succ d ih =>
    intro i hi fc g hf hg
    obtain ⟨m, rfl⟩ : ∃ m, fc = m + 1 := ⟨fc - 1, by omega⟩
    rw [fX8_draughts_232, if_neg (tone_nle (by omega)).1, ldL_at (j := i) rfl (by omega) (by decide), stL_at (j := i) rfl (by omega) (by decide), nme_s, nI_1]
    refine ih (i + 1) (by omega) m _ (by omega) (fun k hk => ?_)
    by_cases e : k = i
    · rw [updL_eq e, e]
    · rw [updL_ne e]; exact hg k (by omega)
theorem mone_loop {bk : Nat → Int32} {p x : Nat} (hp : p < 6) (hx : bk (3 * p + 2) = nI x) (hx21 : x < 21) : ∀ (d i : Nat), i + d = 21 → ∀ (fc : Nat) (g : Nat → Int64), d < fc → (∀ k, k < i → g k = nL (if k = x then 1 else 0)) → ∃ g2, fX8_draughts_83 bk (nI p) fc (nI i) g = some g2 ∧ ∀ k, k < 21 → g2 k = nL (if k = x then 1 else 0) := by
  intro d
  induction d with
  | zero =>
    intro i hi fc g hf hg
    obtain ⟨m, rfl⟩ : ∃ m, fc = m + 1 := ⟨fc - 1, by omega⟩
    rw [fX8_draughts_83, if_pos (tone_le (by omega)).1]
    exact ⟨_, rfl, fun k hk => hg k (by omega)⟩
  | succ d ih =>
    intro i hi fc g hf hg
    obtain ⟨m, rfl⟩ : ∃ m, fc = m + 1 := ⟨fc - 1, by omega⟩
    have hv : (if nI i = nI x then some (1 : Int64) else some 0) = some (nL (if i = x then 1 else 0)) := by
      by_cases e : i = x
      · rw [if_pos (show nI i = nI x by rw [e]), if_pos e]; rfl
      · rw [if_neg (fun q => e ((nI_eq (by omega) (by omega)).mp q)), if_neg e]; rfl
    rw [fX8_draughts_83, if_neg (tone_nle (by omega)).1, ldI_at (iy32 p) (by omega) (by decide), hx, hv, bd1_s, stL_at (j := i) rfl (by omega) (by decide), nme_s, nI_1]
    refine ih (i + 1) (by omega) m _ (by omega) (fun k hk => ?_)
    by_cases e : k = i
    · rw [updL_eq e, e]
    · rw [updL_ne e]; exact hg k (by omega)
def sN (f : Nat → Nat) : Nat → Nat
  | 0 => 0
  | n + 1 => sN f n + f n
def upN (f : Nat → Nat) (j x : Nat) (k : Nat) : Nat := if k = j then f j + x else f k
theorem sN_up (f : Nat → Nat) (j x : Nat) : ∀ n, sN (upN f j x) n = sN f n + (if j < n then x else 0) := by
  intro n
  induction n with
  | zero => rfl
  | succ n ih =>
    rw [sN, sN, ih, upN]
    by_cases e : n = j
    · subst e; rw [if_neg (by omega), if_pos rfl, if_pos (by omega)]; omega
    · rw [if_neg e]
      by_cases q : j < n
      · rw [if_pos q, if_pos (by omega)]; omega
      · rw [if_neg q, if_neg (by omega)]; omega
theorem sN_mono (f : Nat → Nat) : ∀ m n, m ≤ n → sN f m ≤ sN f n := by
  intro m n h
  induction n with
  | zero => obtain rfl : m = 0 := by omega
            exact Nat.le_refl _
  | succ n ih =>
    by_cases e : m = n + 1
    · subst e; exact Nat.le_refl _
    · rw [sN]; have := ih (by omega); omega
theorem cl_idx (v : Int32) : ∃ c : Nat, c < 21 ∧ cl v = nI c := nI_of_toInt (n := 21) (cl_rng v).1 (by have := (cl_rng v).2; omega)
theorem tlb : ∀ b : Nat, b < 11 → ((10 : Int32) - nI b).toInt64 = nL (10 - b) ∧ (nI b).toInt64 = nL b := by decide
theorem spread_loop {x : Int32} {b : Nat} (hb' : b < 11) {f w : Nat → Int64} {ρ : Nat → Nat} (hf : ∀ k, k < 21 → f k = nL (ρ k)) (hw : ∀ k, k < 21 → w k = nL (ρ k)) : ∀ (d i : Nat), i + d = 21 → ∀ (fc fm : Nat) (g h : Nat → Int64) (σ : Nat → Nat), d < fc → d < fm → (∀ k, k < 21 → g k = nL (σ k) ∧ h k = nL (σ k)) → sN σ 21 = 10 * sN ρ i → ∃ g2 h2 σ2, fX0_spreadDamp_50 x f (nI b) fc (nI i) g = some g2 ∧ fX8_draughts_159 x w (nI b) fm (nI i) h = some h2 ∧ (∀ k, k < 21 → g2 k = nL (σ2 k) ∧ h2 k = nL (σ2 k)) ∧ sN σ2 21 = 10 * sN ρ 21 := by
  intro d
  induction d with
  | zero =>
    intro i hi fc fm g h σ hfc hfm hg hs
    obtain ⟨fc, rfl⟩ : ∃ m, fc = m + 1 := ⟨fc - 1, by omega⟩
    obtain ⟨fm, rfl⟩ : ∃ m, fm = m + 1 := ⟨fm - 1, by omega⟩
    obtain rfl : i = 21 := by omega
    rw [fX0_spreadDamp_50, fX8_draughts_159, if_pos (tone_le rfl).2, if_pos (tone_le rfl).1]
    exact ⟨_, _, σ, rfl, rfl, hg, hs⟩
  | succ d ih =>
    intro i hi fc fm g h σ hfc hfm hg hs
    obtain ⟨fc, rfl⟩ : ∃ m, fc = m + 1 := ⟨fc - 1, by omega⟩
    obtain ⟨fm, rfl⟩ : ∃ m, fm = m + 1 := ⟨fm - 1, by omega⟩
    have hi21 : i < 21 := by omega
    obtain ⟨c, hc, ec⟩ := cl_idx (nI i + x)
    obtain ⟨c', hc', ec'⟩ := cl_idx (nI i + x + 1)
    obtain ⟨t1, t2⟩ := tlb b hb'
    have u1 : ∀ k, k < 21 → vp_updL g c (g c + nL (10 - b) * f i) k = nL (upN σ c ((10 - b) * ρ i) k) ∧ vp_updL h c (h c + w i * nL (10 - b)) k = nL (upN σ c ((10 - b) * ρ i) k) := by
      intro k hk
      rw [(hg c hc).1, (hg c hc).2, hf i hi21, hw i hi21, Int64.mul_comm (nL (ρ i)), nL_mul, nL_add]
      unfold upN
      by_cases e : k = c
      · rw [updL_eq e, updL_eq e, if_pos e]; exact ⟨rfl, rfl⟩
      · rw [updL_ne e, updL_ne e, if_neg e]; exact hg k hk
    have u2 : ∀ k, k < 21 → vp_updL (vp_updL g c (g c + nL (10 - b) * f i)) c' (vp_updL g c (g c + nL (10 - b) * f i) c' + nL b * f i) k = nL (upN (upN σ c ((10 - b) * ρ i)) c' (b * ρ i) k) ∧ vp_updL (vp_updL h c (h c + w i * nL (10 - b))) c' (vp_updL h c (h c + w i * nL (10 - b)) c' + w i * nL b) k = nL (upN (upN σ c ((10 - b) * ρ i)) c' (b * ρ i) k) := by
      intro k hk
      rw [(u1 c' hc').1, (u1 c' hc').2, show nL b * f i = nL (b * ρ i) by rw [hf i hi21, nL_mul], show w i * nL b = nL (b * ρ i) by rw [hw i hi21, Int64.mul_comm, nL_mul], nL_add]
      by_cases e : k = c'
      · rw [updL_eq e, updL_eq e]; unfold upN; rw [if_pos e]; exact ⟨rfl, rfl⟩
      · rw [updL_ne e, updL_ne e, show upN (upN σ c ((10 - b) * ρ i)) c' (b * ρ i) k = upN σ c ((10 - b) * ρ i) k by rw [upN, if_neg e]]; exact u1 k hk
    have hsum : sN (upN (upN σ c ((10 - b) * ρ i)) c' (b * ρ i)) 21 = 10 * sN ρ (i + 1) := by
      rw [sN_up, sN_up, if_pos hc, if_pos hc', hs, sN]
      have : (10 - b) * ρ i + b * ρ i = 10 * ρ i := by rw [← Nat.add_mul]; congr 1; omega
      omega
    rw [fX0_spreadDamp_50, fX8_draughts_159, if_neg (tone_nle hi21).2, if_neg (tone_nle hi21).1, within_s, bd1_s, clip_s, bd1_s, ec, ldL_at (j := c) rfl hc (by decide), ldL_at (j := i) rfl hi21 (by decide), stL_at (j := c) rfl hc (by decide), within_s, bd1_s, ec', ldL_at (j := c') rfl hc' (by decide), ldL_at (j := i) rfl hi21 (by decide), stL_at (j := c') rfl hc' (by decide), nme_s, nI_1, t1, t2,
      ldL_at (j := c) rfl hc (by decide), ldL_at (j := i) rfl hi21 (by decide), stL_at (j := c) rfl hc (by decide), clip_s, bd1_s, ec', ldL_at (j := c') rfl hc' (by decide), ldL_at (j := i) rfl hi21 (by decide), stL_at (j := c') rfl hc' (by decide), nme_s]
    exact ih (i + 1) (by omega) fc fm _ _ _ (by omega) (by omega) u2 hsum
