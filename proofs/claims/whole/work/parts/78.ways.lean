theorem prAll_iff {th v1 v2 c : Int32} {p : Nat} : ∀ (d q : Nat), prAll th v1 v2 c p d q = true ↔ ∀ x, q ≤ x → x < q + d → prOK th v1 v2 c p x = true := by
  intro d
  induction d with
  | zero => intro q; exact ⟨fun _ x h1 h2 => by omega, fun _ => rfl⟩
  | succ d ih =>
    intro q
    rw [prAll, Bool.and_eq_true, ih (q + 1)]
    constructor
    · rintro ⟨a, b⟩ x h1 h2
      by_cases e : x = q
      · rw [e]; exact a
      · exact b x (by omega) (by omega)
    · intro h
      exact ⟨h q (by omega) (by omega), fun x h1 h2 => h x (by omega) (by omega)⟩
theorem okC_iff {th v1 v2 R c : Int32} : ∀ (d p : Nat), p + d = 6 → (okC th v1 v2 R c d p = true ↔ ∀ x, p ≤ x → x < 6 → pBase th R c x = true ∧ ∀ y, x < y → y < 6 → prOK th v1 v2 c x y = true) := by
  intro d
  induction d with
  | zero => intro p hp; exact ⟨fun _ x h1 h2 => by omega, fun _ => rfl⟩
  | succ d ih =>
    intro p hp
    rw [okC, Bool.and_eq_true, Bool.and_eq_true, ih (p + 1) (by omega), prAll_iff]
    constructor
    · rintro ⟨⟨a, b⟩, h⟩ x h1 h2
      by_cases e : x = p
      · subst e; exact ⟨a, fun y h3 h4 => b y (by omega) (by omega)⟩
      · exact h x (by omega) h2
    · intro h
      exact ⟨⟨(h p (by omega) (by omega)).1, fun y h3 h4 => (h p (by omega) (by omega)).2 y (by omega) (by omega)⟩, fun x h1 h2 => h x (by omega) h2⟩
/-- the same, each piece against those before it -/
theorem okC_back {th v1 v2 R c : Int32} : okC th v1 v2 R c 6 0 = true ↔ ∀ y, y < 6 → pBase th R c y = true ∧ ∀ x, x < y → prOK th v1 v2 c x y = true := by
  rw [okC_iff 6 0 rfl]
  constructor
  · intro h y hy
    exact ⟨(h y (by omega) hy).1, fun x hx => (h x (by omega) (by omega)).2 y hx hy⟩
  · intro h x _ hx
    exact ⟨(h x hx).1, fun y hxy hy => (h y hy).2 x hxy⟩
theorem rc_dig64 : ∀ q : Nat, q < 6 → ∀ a : Nat, a < 64 → ∀ b : Nat, b < 64 → rcI (nI (64 * a + b)) q = nI ((64 * a + b) / 4 ^ q % 4) := by decide +kernel
theorem rc_dig {q : Nat} (hq : q < 6) {c : Nat} (hc : c < 4096) : rcI (nI c) q = nI (c / 4 ^ q % 4) := by
  have h := rc_dig64 q hq (c / 64) (by omega) (c % 64) (by omega)
  rw [Nat.div_add_mod] at h
  exact h
