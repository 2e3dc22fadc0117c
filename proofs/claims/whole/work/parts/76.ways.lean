/-! ways to place the pieces -/
def prN (p q : Nat) : Nat := p * (11 - p) / 2 + q - p - 1
theorem prN_s : ∀ p : Nat, p < 6 → ∀ q : Nat, q < 6 → p < q → fX8_pairOf (nI p) (nI q) = some (nI (prN p q)) := by decide +kernel
/-- the room of piece q in the code c -/
def rcI (c : Int32) (q : Nat) : Int32 := (c >>> (((2 : Int32) * nI q) &&& 31)) &&& 3
/-- two pieces keep to what is asked of them -/
def prOK (th v1 v2 c : Int32) (p q : Nat) : Bool := if (hb th p && hb th q) = true then (if rcI c p = rcI c q then !hb v1 (prN p q) else !hb v2 (prN p q)) else true
def prAll (th v1 v2 c : Int32) (p : Nat) : Nat → Nat → Bool
  | 0, _ => true
  | d + 1, q => prOK th v1 v2 c p q && prAll th v1 v2 c p d (q + 1)
set_option maxHeartbeats 1000000 in
theorem w82_loop {th v1 v2 c : Int32} {p : Nat} (hp : p < 6) : ∀ (d q : Nat), q + d = 6 → p < q → ∀ (fuel : Nat) (w : Bool), d < fuel → fX8_waysIn_82 th (nI p) (rcI c p) c v2 v1 fuel (if w then 1 else 0) (nI q) = some (if w && prAll th v1 v2 c p d q then 1 else 0) := by
  intro d
  induction d with
  | zero =>
    intro q hq hpq fuel w hf
    obtain ⟨m, rfl⟩ : ∃ m, fuel = m + 1 := ⟨fuel - 1, by omega⟩
    rw [fX8_waysIn_82, if_pos (six_le (by omega)), prAll, Bool.and_true]
  | succ d ih =>
    intro q hq hpq fuel w hf
    obtain ⟨m, rfl⟩ : ∃ m, fuel = m + 1 := ⟨fuel - 1, by omega⟩
    have hq6 : q < 6 := by omega
    have nx := ih (q + 1) (by omega) (by omega) m (w && prOK th v1 v2 c p q) (by omega)
    rw [Bool.and_assoc] at nx
    rw [fX8_waysIn_82, if_neg (six_nle hq6), has_s, has_s, prN_s p hp q hq6 hpq, prAll]
    rw [← nx]
    have er : (c >>> (((2 : Int32) * nI q) &&& 31)) &&& 3 = rcI c q := rfl
    rw [er]
    unfold prOK
    by_cases e : rcI c p = rcI c q
    · cases w <;> cases hb th p <;> cases hb th q <;> cases h1 : hb v1 (prN p q) <;> simp [bd1_s, nme_s, if0, if1, if_true, if_false, Bool.false_eq_true, nI_1, if_pos e, has_s, h1]
    · cases w <;> cases hb th p <;> cases hb th q <;> cases h2 : hb v2 (prN p q) <;> simp [bd1_s, nme_s, if0, if1, if_true, if_false, Bool.false_eq_true, nI_1, if_neg e, has_s, h2]
