/-! an hour -/
theorem hb_or : ∀ t : Nat, t < 64 → ∀ p : Nat, p < 6 → ∀ q : Nat, q < 6 → hb (nI t ||| ((1 : Int32) <<< (nI p &&& 31))) q = (hb (nI t) q || decide (q = p)) := by decide +kernel
theorem hb_zero : ∀ q : Nat, q < 6 → hb 0 q = false := by decide +kernel
theorem hb_or' {t : Int32} {p q : Nat} (h0 : 0 ≤ t.toInt) (h1 : t.toInt < 64) (hp : p < 6) (hq : q < 6) : hb (t ||| ((1 : Int32) <<< (nI p &&& 31))) q = (hb t q || decide (q = p)) := by
  obtain ⟨j, hj, rfl⟩ := nI_of_toInt (n := 64) h0 h1
  exact hb_or j hj p hp q hq
theorem with_loop (th : Int32) (ro : Nat → Int32) (x : Int32) : ∀ (d i : Nat), i + d = 6 → ∀ (fuel : Nat) (w : Int32), d < fuel → 0 ≤ w.toInt → w.toInt < 64 → (∀ q, q < 6 → hb w q = (decide (q < i) && hb th q && decide (ro q = x))) → ∃ r, fX1_withPieces_4 th ro x fuel w (nI i) = some r ∧ ∀ q, q < 6 → hb r q = (hb th q && decide (ro q = x)) := by
  intro d
  induction d with
  | zero =>
    intro i hi fuel w hf h0 h1 hw
    obtain ⟨m, rfl⟩ : ∃ m, fuel = m + 1 := ⟨fuel - 1, by omega⟩
    rw [fX1_withPieces_4, if_pos (six_le (by omega))]
    exact ⟨_, rfl, fun q hq => by rw [hw q hq, decide_eq_true (show q < i by omega), Bool.true_and]⟩
  | succ d ih =>
    intro i hi fuel w hf h0 h1 hw
    obtain ⟨m, rfl⟩ : ∃ m, fuel = m + 1 := ⟨fuel - 1, by omega⟩
    have hi6 : i < 6 := by omega
    have next : ∀ (w' : Int32), (∀ q, q < 6 → hb w' q = (hb w q || (decide (q = i) && hb th q && decide (ro q = x)))) → ∀ q, q < 6 → hb w' q = (decide (q < i + 1) && hb th q && decide (ro q = x)) := by
      intro w' hw' q hq
      rw [hw' q hq, hw q hq]
      rcases Nat.lt_trichotomy q i with h | h | h
      · simp [h, show q ≠ i by omega, show q < i + 1 by omega]
      · subst h; simp
      · simp [show ¬ q < i by omega, show q ≠ i by omega, show ¬ q < i + 1 by omega]
    rw [fX1_withPieces_4, if_neg (six_nle hi6), ldI_at (j := i) rfl hi6 (by decide)]
    cases hbi : hb th i
    · rw [bit01_0 hbi, if_neg (by decide)]
      simp only [bd1_s, nme_s, if0, if1, if_true, if_false, Bool.false_eq_true, nI_1]
      refine ih (i + 1) (by omega) m w (by omega) h0 h1 (next w (fun q hq => ?_))
      by_cases e : q = i
      · subst e; simp [hbi]
      · simp [e]
    · rw [bit01_1 hbi, if_pos rfl]
      by_cases hr : ro i = x
      · simp only [if_pos hr, bd1_s, nme_s, if0, if1, if_true, if_false, Bool.false_eq_true, nI_1]
        have h2 := or64 h0 h1 hi6
        refine ih (i + 1) (by omega) m _ (by omega) h2.1 h2.2 (next _ (fun q hq => ?_))
        rw [hb_or' h0 h1 hi6 hq]
        by_cases e : q = i
        · subst e; simp [hbi, hr]
        · simp [e]
      · simp only [if_neg hr, bd1_s, nme_s, if0, if1, if_true, if_false, Bool.false_eq_true, nI_1]
        refine ih (i + 1) (by omega) m w (by omega) h0 h1 (next w (fun q hq => ?_))
        by_cases e : q = i
        · subst e; simp [hbi, hr]
        · simp [e]
theorem with_s (th : Int32) (ro : Nat → Int32) (x : Int32) : ∃ r, fX1_withPieces FU th ro x = some r ∧ ∀ q, q < 6 → hb r q = (hb th q && decide (ro q = x)) := by
  obtain ⟨r, g1, g2⟩ := with_loop th ro x 6 0 rfl FU 0 (by decide) (by decide) (by decide) (fun q hq => by rw [hb_zero q hq]; simp)
  unfold fX1_withPieces
  rw [show fX1_withPieces_4 th ro x FU 0 0 = _ from g1, bd1_s]
  exact ⟨r, rfl, g2⟩
def mS (t : Nat → Int32) : Nat → Int32
  | 0 => 0
  | i + 1 => mS t i + t i
/-- what piece q does to p's nerves in an hour -/
def tB (th : Int32) (ro bf : Nat → Int32) (p q : Nat) : Int32 := if (hb th q && decide (ro q = ro p)) = true ∧ q ≠ p then bf (6 * q + p) else 0
theorem change_loop {bf t : Nat → Int32} {p : Nat} (hp : p < 6) (W x : Int32) (ht : ∀ q, q < 6 → (if hb W q then bf (6 * q + p) else 0) = t q) : ∀ (d i : Nat), i + d = 6 → ∀ (fuel : Nat), d < fuel → fX1_changeOf_20 bf (nI p) W fuel (x + mS t i) (nI i) = some (x + mS t 6) := by
  intro d
  induction d with
  | zero =>
    intro i hi fuel hf
    obtain ⟨m, rfl⟩ : ∃ m, fuel = m + 1 := ⟨fuel - 1, by omega⟩
    rw [fX1_changeOf_20, if_pos (six_le (by omega))]
    rw [show i = 6 by omega]
  | succ d ih =>
    intro i hi fuel hf
    obtain ⟨m, rfl⟩ : ∃ m, fuel = m + 1 := ⟨fuel - 1, by omega⟩
    have hi6 : i < 6 := by omega
    rw [fX1_changeOf_20, if_neg (six_nle hi6), ldI_at (ix6 i p) (by omega) (by decide), nme_s, nme_s, nI_1]
    have e : x + mS t i + ((W >>> (nI i &&& 31)) &&& 1) * bf (6 * i + p) = x + mS t (i + 1) := by
      rw [mS, ← ht i hi6, Int32.add_assoc]
      cases hbi : hb W i
      · rw [bit01_0 hbi]; simp
      · rw [bit01_1 hbi]; simp
    rw [e]
    exact ih (i + 1) (by omega) m (by omega)
theorem more_loop {th : Int32} {nw ba ro bf : Nat → Int32} {p : Nat} (hp : p < 6) (hr : ∀ q, q < 6 → nw (18 + q) = ro q) (hb' : ∀ k, k < 36 → ba k = bf k) : ∀ (d i : Nat), i + d = 6 → ∀ (fuel : Nat), d < fuel → fX8_hour_23 (nI p) th nw (ro p) ba fuel (mS (tB th ro bf p) i) (nI i) = some (mS (tB th ro bf p) 6) := by
  intro d
  induction d with
  | zero =>
    intro i hi fuel hf
    obtain ⟨m, rfl⟩ : ∃ m, fuel = m + 1 := ⟨fuel - 1, by omega⟩
    rw [fX8_hour_23, if_pos (six_le (by omega))]
    rw [show i = 6 by omega]
  | succ d ih =>
    intro i hi fuel hf
    obtain ⟨m, rfl⟩ : ∃ m, fuel = m + 1 := ⟨fuel - 1, by omega⟩
    have hi6 : i < 6 := by omega
    rw [fX8_hour_23, if_neg (six_nle hi6), has_s, ldI_at (iz18 i) (by omega) (by decide), ldI_at (iy6 i p) (by omega) (by decide), hr i hi6, hb' _ (by omega)]
    have nx := ih (i + 1) (by omega) m (by omega)
    rw [mS] at nx
    by_cases e : i = p
    · subst e
      have et : tB th ro bf i i = 0 := by unfold tB; rw [if_neg (by simp)]
      rw [et, Int32.add_zero] at nx
      simp only [bd1_s, nme_s, if0, if1, if_true, if_false, Bool.false_eq_true, nI_1, Int32.add_zero]
      exact nx
    · rw [if_neg (fun h => e ((nI_eq (by omega) (by omega)).mp h))]
      cases hbi : hb th i
      · have et : tB th ro bf p i = 0 := by unfold tB; rw [if_neg (by simp [hbi])]
        rw [et, Int32.add_zero] at nx
        simp only [bd1_s, nme_s, if0, if1, if_true, if_false, Bool.false_eq_true, nI_1, Int32.add_zero]
        exact nx
      · by_cases hro : ro i = ro p
        · have et : tB th ro bf p i = bf (6 * i + p) := by unfold tB; rw [if_pos ⟨by simp [hbi, hro], e⟩]
          rw [et] at nx
          simp only [bd1_s, nme_s, if0, if1, if_true, if_false, Bool.false_eq_true, nI_1, if_pos hro]
          exact nx
        · have et : tB th ro bf p i = 0 := by unfold tB; rw [if_neg (by simp [hro])]
          rw [et, Int32.add_zero] at nx
          simp only [bd1_s, nme_s, if0, if1, if_true, if_false, Bool.false_eq_true, nI_1, if_neg hro, Int32.add_zero]
          exact nx
