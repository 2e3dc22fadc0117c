/-! when all are well, in given rooms -/
def gS (H : Nat → Bool) (il ef bf : Nat → Int32) (ρ : Nat → Nat) (h p : Nat) : Nat := latN (eN (ef (3 * ρ p))) h (xN (il (3 * p))) + latN (eN (ef (3 * ρ p + 1) + mS (tS bf (fun q => H q && decide (ρ q = ρ p)) p) 6)) h (xN (il (3 * p + 1))) + latN (eN (ef (3 * ρ p + 2))) h (xN (il (3 * p + 2)))
theorem nF_key {H : Nat → Bool} {il ef bf : Nat → Int32} {ρ : Nat → Nat} (hρ : ∀ q, q < 6 → ρ q < 4) (v4 : ∀ k, k < 18 → 0 ≤ (il k).toInt ∧ (il k).toInt ≤ 20) (v6 : ∀ k, k < 12 → -5 ≤ (ef k).toInt ∧ (ef k).toInt ≤ 5) (v7 : ∀ k, k < 36 → -3 ≤ (bf k).toInt ∧ (bf k).toInt ≤ 3) {h : Nat} (hh : h ≤ 60) (hT : h ≤ nF H il ef bf ρ) : (sN (fun p => if H p = true then gS H il ef bf ρ h p else 0) 6 = 0 ↔ h = nF H il ef bf ρ) := by
  have eqv : sN (fun p => if H p = true then gS H il ef bf ρ h p else 0) 6 = 0 ↔ ∀ p, p < 6 → H p = true → gS H il ef bf ρ h p = 0 := by
    rw [sN_0]
    constructor
    · intro a p hp hx; have := a p hp; rw [if_pos hx] at this; exact this
    · intro a p hp
      by_cases c : H p = true
      · rw [if_pos c]; exact a p hp c
      · rw [if_neg c]
  rw [eqv]
  have wl : wlB H il 6 = true ↔ ∀ p, p < 6 → H p = true → gS H il ef bf ρ 0 p = 0 := by
    rw [wlB_iff]
    have e : ∀ p, p < 6 → (sI il p = 0 ↔ gS H il ef bf ρ 0 p = 0) := by
      intro p hp
      obtain ⟨-, -, -, ⟨c0, d0⟩, ⟨c1, d1⟩, ⟨c2, d2⟩⟩ := par_s hp (hρ p hp) v4 v6 (tS_rng (bf := bf) (G := fun q => H q && decide (ρ q = ρ p)) hp v7)
      rw [sI_n d0 d1 d2]
      exact nI_eq (b := 0) (by omega) (by decide)
    constructor
    · intro a p hp hx; exact (e p hp).mp (a p hp hx)
    · intro a p hp hx; exact (e p hp).mpr (a p hp hx)
  have up : ∀ p, p < 6 → ∀ h, h < 60 → (gS H il ef bf ρ (h + 1) p = 0 ↔ uP il ef (tS bf (fun q => H q && decide (ρ q = ρ p)) p) p (ρ p) ≤ h + 1) := by
    intro p hp h hh
    obtain ⟨⟨a0, -⟩, ⟨a1, -⟩, ⟨a2, -⟩, ⟨c0, -⟩, ⟨c1, -⟩, ⟨c2, -⟩⟩ := par_s hp (hρ p hp) v4 v6 (tS_rng (bf := bf) (G := fun q => H q && decide (ρ q = ρ p)) hp v7)
    have l0 := latN_u a0 h hh _ c0
    have l1 := latN_u a1 h hh _ c1
    have l2 := latN_u a2 h hh _ c2
    unfold gS uP mx3
    (repeat' split) <;> omega
  have u0 : ∀ p, p < 6 → uP il ef (tS bf (fun q => H q && decide (ρ q = ρ p)) p) p (ρ p) ≤ 0 → gS H il ef bf ρ 0 p = 0 := by
    intro p hp hz
    obtain ⟨⟨a0, -⟩, ⟨a1, -⟩, ⟨a2, -⟩, ⟨c0, -⟩, ⟨c1, -⟩, ⟨c2, -⟩⟩ := par_s hp (hρ p hp) v4 v6 (tS_rng (bf := bf) (G := fun q => H q && decide (ρ q = ρ p)) hp v7)
    have l0 := (uN_rng _ a0 _ c0).2
    have l1 := (uN_rng _ a1 _ c1).2
    have l2 := (uN_rng _ a2 _ c2).2
    revert hz
    unfold gS uP mx3
    rw [latN, latN, latN]
    (repeat' split) <;> omega
  have ml : ∀ h, mxB H (fun p => uP il ef (tS bf (fun q => H q && decide (ρ q = ρ p)) p) p (ρ p)) 6 ≤ h ↔ ∀ p, p < 6 → H p = true → uP il ef (tS bf (fun q => H q && decide (ρ q = ρ p)) p) p (ρ p) ≤ h := fun h => mxB_le 6
  revert hT
  unfold nF
  by_cases c : wlB H il 6 = true
  · rw [if_pos c]
    intro hT
    obtain rfl : h = 0 := by omega
    exact ⟨fun _ => rfl, fun _ => wl.mp c⟩
  · rw [if_neg c]
    intro hT
    cases h with
    | zero =>
      constructor
      · intro a; exact absurd (wl.mpr a) c
      · intro a
        exact absurd (wl.mpr (fun p hp hx => u0 p hp ((ml 0).mp (by omega) p hp hx))) c
    | succ h =>
      constructor
      · intro a
        have := (ml (h + 1)).mpr (fun p hp hx => (up p hp h (by omega)).mp (a p hp hx))
        omega
      · intro a p hp hx
        exact (up p hp h (by omega)).mpr ((ml (h + 1)).mp (by omega) p hp hx)
theorem tB_tS {th : Int32} {bf : Nat → Int32} {ρ : Nat → Nat} {p : Nat} (hp : p < 6) (hρ : ∀ q, q < 6 → ρ q < 4) (v8 : ∀ k, k < 6 → bf (7 * k) = 0) : ∀ q, q < 6 → tB th (fun q => nI (ρ q)) bf p q = tS bf (fun q => hb th q && decide (ρ q = ρ p)) p q := by
  intro q hq
  have h1 := hρ q hq
  have h2 := hρ p hp
  have ed : decide (nI (ρ q) = nI (ρ p)) = decide (ρ q = ρ p) := decide_eq_decide.mpr (nI_eq (by omega) (by omega))
  unfold tB tS
  simp only [ed]
  by_cases e : q = p
  · subst e
    rw [if_neg (fun h => h.2 rfl), show 6 * q + q = 7 * q by omega, v8 q hq]
    split <;> rfl
  · by_cases c : (hb th q && decide (ρ q = ρ p)) = true
    · rw [if_pos c, if_pos ⟨c, e⟩]
    · rw [if_neg c, if_neg (fun h => c h.1)]
theorem clN_d {d : Int32} (a : eN d < 47) (b : d = nI (eN d) - 23) {x : Nat} (hx : x < 21) : cl (nI x + d) = nI (clN (eN d) x) := by
  have := clN_s (eN d) a x hx
  rw [← b] at this
  exact this
theorem a146_loop {th num : Int32} {il ds ba ef bf : Nat → Int32} {ρ : Nat → Nat} (hρ : ∀ q, q < 6 → ρ q < 4) (v4 : ∀ k, k < 18 → 0 ≤ (il k).toInt ∧ (il k).toInt ≤ 20) (v6 : ∀ k, k < 12 → -5 ≤ (ef k).toInt ∧ (ef k).toInt ≤ 5) (v7 : ∀ k, k < 36 → -3 ≤ (bf k).toInt ∧ (bf k).toInt ≤ 3) (v8 : ∀ k, k < 6 → bf (7 * k) = 0) (hds : ∀ k, k < 12 → ds k = ef k) (hba : ∀ k, k < 36 → ba k = bf k) : ∀ (d h : Nat), h + d = 21 → ∀ (fuel B : Nat) (a : Int32) (nw tn : Nat → Int32), d < fuel → B < 2 ^ 31 → h ≤ nF (hb th) il ef bf ρ → (∀ p, p < 6 → hb th p = true → nw (3 * p) = nI (latN (eN (ef (3 * ρ p))) h (xN (il (3 * p)))) ∧ nw (3 * p + 1) = nI (latN (eN (ef (3 * ρ p + 1) + mS (tS bf (fun q => hb th q && decide (ρ q = ρ p)) p) 6)) h (xN (il (3 * p + 1)))) ∧ nw (3 * p + 2) = nI (latN (eN (ef (3 * ρ p + 2))) h (xN (il (3 * p + 2))))) → (∀ q, q < 6 → nw (18 + q) = nI (ρ q)) → nw 24 = 0 → ∃ n2 t2, fX8_all_146 FU 1 th num ds ba fuel a (nI B) (nI h) nw tn = some (if nF (hb th) il ef bf ρ ≤ 20 ∧ nF (hb th) il ef bf ρ < B then num else a, if nF (hb th) il ef bf ρ ≤ 20 ∧ nF (hb th) il ef bf ρ < B then nI (nF (hb th) il ef bf ρ) else nI B, n2, t2) := by
  intro d
  induction d with
  | zero =>
    intro h hd fuel B a nw tn hf hB hT hn hr h24
    obtain ⟨m, rfl⟩ : ∃ m, fuel = m + 1 := ⟨fuel - 1, by omega⟩
    rw [fX8_all_146, if_pos (show (21 : Int32) ≤ nI h from nI_le (a := 21) (by omega) (by omega))]
    refine ⟨nw, tn, ?_⟩
    rw [if_neg (by omega), if_neg (by omega)]
  | succ d ih =>
    intro h hd fuel B a nw tn hf hB hT hn hr h24
    obtain ⟨m, rfl⟩ : ∃ m, fuel = m + 1 := ⟨fuel - 1, by omega⟩
    rw [fX8_all_146, if_neg (show ¬ (21 : Int32) ≤ nI h from nI_ge (b := 21) (by omega) (by decide))]
    by_cases c : B ≤ h
    · rw [if_pos (nI_le c (by omega))]
      refine ⟨nw, tn, ?_⟩
      rw [if_neg (by omega), if_neg (by omega)]
    · have key := nF_key (H := hb th) hρ v4 v6 v7 (show h ≤ 60 by omega) hT
      have lt : ∀ p, p < 6 → (latN (eN (ef (3 * ρ p))) h (xN (il (3 * p))) < 21 ∧ latN (eN (ef (3 * ρ p + 1) + mS (tS bf (fun q => hb th q && decide (ρ q = ρ p)) p) 6)) h (xN (il (3 * p + 1))) < 21 ∧ latN (eN (ef (3 * ρ p + 2))) h (xN (il (3 * p + 2))) < 21) := by
        intro p hp
        obtain ⟨⟨a0, -⟩, ⟨a1, -⟩, ⟨a2, -⟩, ⟨c0, -⟩, ⟨c1, -⟩, ⟨c2, -⟩⟩ := par_s hp (hρ p hp) v4 v6 (tS_rng (bf := bf) (G := fun q => hb th q && decide (ρ q = ρ p)) hp v7)
        exact ⟨latN_lt a0 _ _ c0, latN_lt a1 _ _ c1, latN_lt a2 _ _ c2⟩
      have hs := a170_loop (th := th) (nw := nw) (g := gS (hb th) il ef bf ρ h) (fun p hp hx => by
        obtain ⟨n0, n1, n2⟩ := hn p hp hx
        exact sI_n n0 n1 n2) 6 0 rfl FU (by decide)
      have bd := sN_le (f := fun p => if hb th p = true then gS (hb th) il ef bf ρ h p else 0) (b := 60) 6 (fun p hp => by
        obtain ⟨q0, q1, q2⟩ := lt p hp
        show (if hb th p = true then gS (hb th) il ef bf ρ h p else 0) ≤ 60
        split
        · unfold gS; omega
        · omega)
      rw [if_neg (nI_ge (by omega) (by omega)), if_neg (show ¬ (1 : Int32) = 0 by decide), show fX8_all_170 th nw FU 0 0 = _ from hs, bd1_s]
      by_cases z : sN (fun p => if hb th p = true then gS (hb th) il ef bf ρ h p else 0) 6 = 0
      · have eN' := key.mp z
        rw [if_pos (show nI (sN (fun p => if hb th p = true then gS (hb th) il ef bf ρ h p else 0) 6) = 0 by rw [z]; rfl), bd4_s, nme_s, nI_1, ← eN']
        obtain ⟨m, rfl⟩ : ∃ f, m = f + 1 := ⟨m - 1, by omega⟩
        refine ⟨nw, tn, ?_⟩
        rw [fX8_all_146, if_pos (show h ≤ 20 ∧ h < B by omega), if_pos (show h ≤ 20 ∧ h < B by omega)]
        by_cases k : (21 : Int32) ≤ nI (h + 1)
        · rw [if_pos k]
        · rw [if_neg k, if_pos (nI_le (by omega) (by omega))]
      · have hne : h ≠ nF (hb th) il ef bf ρ := fun e => z (key.mpr e)
        rw [if_neg (show ¬ nI (sN (fun p => if hb th p = true then gS (hb th) il ef bf ρ h p else 0) 6) = 0 from fun e => z ((nI_eq (b := 0) (by omega) (by decide)).mp e))]
        have hro : ∀ k, k < 6 → 0 ≤ ((fun q => nI (ρ q)) k).toInt ∧ ((fun q => nI (ρ q)) k).toInt ≤ 3 := by
          intro k hk
          have := hρ k hk
          show 0 ≤ (nI (ρ k)).toInt ∧ (nI (ρ k)).toInt ≤ 3
          rw [nI_toInt (by omega)]; omega
        obtain ⟨g2, t2, f1, f2, f3, f4, f5⟩ := mhour_s (th := th) (sa := 0) (tn := tn) (il := nw) (ef := ef) (bf := bf) hro (fun _ _ => rfl) hr h24 hds hba
        rw [f1, bd2_s, bd4_s, nme_s, nI_1]
        refine ih (h + 1) (by omega) m B a g2 t2 (by omega) hB (by omega) (fun p hp hx => ?_) f3 f4
        have r4 := hρ p hp
        obtain ⟨⟨a0, b0⟩, ⟨a1, b1⟩, ⟨a2, b2⟩, -, -, -⟩ := par_s hp r4 v4 v6 (tS_rng (bf := bf) (G := fun q => hb th q && decide (ρ q = ρ p)) hp v7)
        obtain ⟨i0, i1, i2⟩ := hI_at (th := th) (nw := nw) (ro := fun q => nI (ρ q)) (ef := ef) (bf := bf) (r := ρ p) hp hx (by show (nI (ρ p)).toInt.toNat = ρ p; rw [nI_toInt (by omega)]; omega)
        obtain ⟨n0, n1, n2⟩ := hn p hp hx
        obtain ⟨q0, q1, q2⟩ := lt p hp
        refine ⟨?_, ?_, ?_⟩
        · rw [f2 _ (by omega), i0, n0, clN_d a0 b0 q0, latN_succ]
        · rw [f2 _ (by omega), i1, n1, mS_congr 6 (tB_tS hp hρ v8), clN_d a1 b1 q1, latN_succ]
        · rw [f2 _ (by omega), i2, n2, clN_d a2 b2 q2, latN_succ]
