/-- a code's low digits, as rooms -/
def dgR (c : Nat) (q : Nat) : Nat := c / 4 ^ q % 4
theorem suitF_iff {H : Nat → Bool} {A T : Nat → Nat → Bool} {ρ : Nat → Nat} {k r : Nat} : ∀ n, suitF H A T ρ k r n = true ↔ ∀ x, x < n → H x = true → (if ρ x = r then !A x k else !T x k) = true := by
  intro n
  induction n with
  | zero => exact ⟨fun _ x h => by omega, fun _ => rfl⟩
  | succ n ih =>
    rw [suitF, Bool.and_eq_true, ih]
    constructor
    · rintro ⟨a, b⟩ x hx hh
      by_cases e : x = n
      · subst e; rw [if_pos hh] at a; exact a
      · exact b x (by omega) hh
    · intro h
      refine ⟨?_, fun x hx => h x (by omega)⟩
      cases e : H n
      · rfl
      · exact h n (by omega) e
/-- piece y keeps to what is asked, in rooms ρ -/
def okY (th v1 v2 : Int32) (R : Nat) (ρ : Nat → Nat) (y : Nat) : Bool := if hb th y = true then decide (ρ y < R) && suitF (hb th) (fun p q => hb v1 (prN p q)) (fun p q => hb v2 (prN p q)) ρ y (ρ y) y else decide (ρ y = 0)
theorem okC_dig {th v1 v2 : Int32} {R c : Nat} (hR : R ≤ 4) (hc : c < 4096) : okC th v1 v2 (nI R) (nI c) 6 0 = true ↔ ∀ y, y < 6 → okY th v1 v2 R (dgR c) y = true := by
  rw [okC_back]
  have d4 : ∀ q, dgR c q < 4 := fun q => Nat.mod_lt _ (by decide)
  have key : ∀ y, y < 6 → ((pBase th (nI R) (nI c) y = true ∧ ∀ x, x < y → prOK th v1 v2 (nI c) x y = true) ↔ okY th v1 v2 R (dgR c) y = true) := by
    intro y hy
    have ey : rcI (nI c) y = nI (dgR c y) := rc_dig hy hc
    have dy := d4 y
    unfold pBase okY
    rw [ey]
    cases e : hb th y
    · simp only [Bool.false_eq_true, if_false, decide_eq_true_eq]
      constructor
      · rintro ⟨a, -⟩; exact (nI_eq (b := 0) (by omega) (by decide)).mp a
      · intro a
        refine ⟨by rw [a]; rfl, fun x hx => ?_⟩
        unfold prOK; rw [e, Bool.and_false, if_neg (by decide)]
    · simp only [if_true, Bool.and_eq_true, decide_eq_true_eq, suitF_iff]
      constructor
      · rintro ⟨a, b⟩
        refine ⟨?_, fun x hx hh => ?_⟩
        · apply Classical.byContradiction
          intro q
          rw [decide_eq_true (show nI R ≤ nI (dgR c y) from nI_le (by omega) (by omega))] at a
          exact absurd a (by decide)
        · have := b x hx
          unfold prOK at this
          rw [hh, e, Bool.and_true, if_pos rfl, ey, show rcI (nI c) x = nI (dgR c x) from rc_dig (by omega) hc] at this
          have dx := d4 x
          by_cases q : dgR c x = dgR c y
          · rw [if_pos (by rw [q])] at this; rw [if_pos q]; exact this
          · rw [if_neg (fun z => q ((nI_eq (by omega) (by omega)).mp z))] at this; rw [if_neg q]; exact this
      · rintro ⟨a, b⟩
        refine ⟨by rw [decide_eq_false (nI_ge (by omega) (by omega))]; rfl, fun x hx => ?_⟩
        unfold prOK
        cases hh : hb th x
        · rfl
        · rw [e, Bool.and_true, if_pos rfl, ey, show rcI (nI c) x = nI (dgR c x) from rc_dig (by omega) hc]
          have dx := d4 x
          have := b x hx hh
          by_cases q : dgR c x = dgR c y
          · rw [if_pos q] at this; rw [if_pos (by rw [q])]; exact this
          · rw [if_neg q] at this; rw [if_neg (fun z => q ((nI_eq (by omega) (by omega)).mp z))]; exact this
  constructor
  · intro h y hy; exact (key y hy).mp (h y hy)
  · intro h y hy; exact (key y hy).mpr (h y hy)
