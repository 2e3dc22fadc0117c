/-! what each room needs with each set -/
def vW (th : Int32) (il ef bf : Nat → Int32) (r s : Nat) : Nat := if wlB (hb th) il 6 = true then 0 else mxB (hb (nI s)) (fun p => uP il ef (tS bf (hb (nI s)) p) p r) 6
theorem wn27_loop {th : Int32} {il ef bf : Nat → Int32} {r : Nat} (hr : r < 4) (v4 : ∀ k, k < 18 → 0 ≤ (il k).toInt ∧ (il k).toInt ≤ 20) (v6 : ∀ k, k < 12 → -5 ≤ (ef k).toInt ∧ (ef k).toInt ≤ 5) (v7 : ∀ k, k < 36 → -3 ≤ (bf k).toInt ∧ (bf k).toInt ≤ 3) : ∀ (d i : Nat), i + d = 64 → ∀ (fuel : Nat) (nd : Nat → Int32), d < fuel → (∀ s, s < i → (nI s &&& (th ^^^ (-1 : Int32))) = 0 → nd (64 * r + s) = nI (vW th il ef bf r s)) → ∃ n2, fX3_weighNeeds_27 FU th (if wlB (hb th) il 6 = true then 1 else 0) il ef bf (nI r) fuel (nI i) nd = some n2 ∧ (∀ s, s < 64 → (nI s &&& (th ^^^ (-1 : Int32))) = 0 → n2 (64 * r + s) = nI (vW th il ef bf r s)) ∧ ∀ k, k < 64 * r → n2 k = nd k := by
  intro d
  induction d with
  | zero =>
    intro i hi fuel nd hf hn
    obtain ⟨m, rfl⟩ : ∃ m, fuel = m + 1 := ⟨fuel - 1, by omega⟩
    obtain rfl : i = 64 := by omega
    rw [fX3_weighNeeds_27, if_pos (show (64 : Int32) ≤ nI 64 by decide)]
    exact ⟨nd, rfl, hn, fun _ _ => rfl⟩
  | succ d ih =>
    intro i hi fuel nd hf hn
    obtain ⟨m, rfl⟩ : ∃ m, fuel = m + 1 := ⟨fuel - 1, by omega⟩
    have jv : (if (if wlB (hb th) il 6 = true then (1 : Int32) else 0) = 0 then (bd1 (fX3_needOf FU il ef bf (nI r) (nI i)) fun r188 => some r188) else some 0) = some (nI (vW th il ef bf r i)) := by
      rw [need_s hr v4 v6 v7 (nI i), bd1_s]
      unfold vW
      cases wlB (hb th) il 6
      · simp only [bd1_s, nme_s, if0, if1, if_true, if_false, Bool.false_eq_true, nI_1]
      · simp only [bd1_s, nme_s, if0, if1, if_true, if_false, Bool.false_eq_true, nI_1]; rfl
    rw [fX3_weighNeeds_27, if_neg (show ¬ (64 : Int32) ≤ nI i from nI_ge (b := 64) (by omega) (by decide)), jv]
    by_cases c : (nI i &&& (th ^^^ (-1 : Int32))) = 0
    · rw [if_pos c, bd1_s, stI_at (ih64 r i) (by omega) (by decide), bd1_s, nme_s, nI_1]
      obtain ⟨n2, f1, f2, f3⟩ := ih (i + 1) (by omega) m (upd nd (64 * r + i) (nI (vW th il ef bf r i))) (by omega) (fun s hs hz => by
        simp only [upd]
        by_cases e : s = i
        · subst e; rw [if_pos rfl]
        · rw [if_neg (by omega)]; exact hn s (by omega) hz)
      refine ⟨n2, f1, f2, fun k hk => ?_⟩
      rw [f3 k hk]
      simp only [upd]
      rw [if_neg (by omega)]
    · rw [if_neg c, bd1_s, nme_s, nI_1]
      exact ih (i + 1) (by omega) m nd (by omega) (fun s hs hz => by
        by_cases e : s = i
        · subst e; exact absurd hz c
        · exact hn s (by omega) hz)
theorem wn19_loop {th : Int32} {il ef bf : Nat → Int32} (v4 : ∀ k, k < 18 → 0 ≤ (il k).toInt ∧ (il k).toInt ≤ 20) (v6 : ∀ k, k < 12 → -5 ≤ (ef k).toInt ∧ (ef k).toInt ≤ 5) (v7 : ∀ k, k < 36 → -3 ≤ (bf k).toInt ∧ (bf k).toInt ≤ 3) : ∀ (d i : Nat), i + d = 4 → ∀ (fuel : Nat) (nd : Nat → Int32), d < fuel → (∀ r, r < i → ∀ s, s < 64 → (nI s &&& (th ^^^ (-1 : Int32))) = 0 → nd (64 * r + s) = nI (vW th il ef bf r s)) → ∃ n2, fX3_weighNeeds_19 FU th (if wlB (hb th) il 6 = true then 1 else 0) il ef bf fuel (nI i) nd = some n2 ∧ ∀ r, r < 4 → ∀ s, s < 64 → (nI s &&& (th ^^^ (-1 : Int32))) = 0 → n2 (64 * r + s) = nI (vW th il ef bf r s) := by
  intro d
  induction d with
  | zero =>
    intro i hi fuel nd hf hn
    obtain ⟨m, rfl⟩ : ∃ m, fuel = m + 1 := ⟨fuel - 1, by omega⟩
    obtain rfl : i = 4 := by omega
    rw [fX3_weighNeeds_19, if_pos (show (4 : Int32) ≤ nI 4 by decide)]
    exact ⟨nd, rfl, hn⟩
  | succ d ih =>
    intro i hi fuel nd hf hn
    obtain ⟨m, rfl⟩ : ∃ m, fuel = m + 1 := ⟨fuel - 1, by omega⟩
    obtain ⟨n2, f1, f2, f3⟩ := wn27_loop (th := th) (show i < 4 by omega) v4 v6 v7 64 0 rfl FU nd (by decide) (fun s hs => by omega)
    rw [fX3_weighNeeds_19, if_neg (show ¬ (4 : Int32) ≤ nI i from nI_ge (b := 4) (by omega) (by decide)), show fX3_weighNeeds_27 FU th _ il ef bf (nI i) FU 0 nd = _ from f1, bd1_s, nme_s, nI_1]
    exact ih (i + 1) (by omega) m n2 (by omega) (fun r hr s hs hz => by
      by_cases e : r = i
      · subst e; exact f2 s hs hz
      · rw [f3 _ (by omega)]; exact hn r (by omega) s hs hz)
theorem needs_s {th : Int32} {il ef bf : Nat → Int32} (h0 : 0 ≤ th.toInt) (h1 : th.toInt < 64) (v4 : ∀ k, k < 18 → 0 ≤ (il k).toInt ∧ (il k).toInt ≤ 20) (v6 : ∀ k, k < 12 → -5 ≤ (ef k).toInt ∧ (ef k).toInt ≤ 5) (v7 : ∀ k, k < 36 → -3 ≤ (bf k).toInt ∧ (bf k).toInt ≤ 3) (nd : Nat → Int32) : ∃ n2, fX3_weighNeeds FU nd th il ef bf = some n2 ∧ ∀ r, r < 4 → ∀ s, s < 64 → (nI s &&& (th ^^^ (-1 : Int32))) = 0 → n2 (64 * r + s) = nI (vW th il ef bf r s) := by
  obtain ⟨w, g1, g2⟩ := well_s (il := il) h0 h1
  obtain ⟨n2, f1, f2⟩ := wn19_loop (th := th) v4 v6 v7 4 0 rfl FU nd (by decide) (fun r hr => by omega)
  have e : (if w = th then some (1 : Int32) else some 0) = some (if wlB (hb th) il 6 = true then 1 else 0) := by
    by_cases c : w = th
    · rw [if_pos c, if_pos (g2.mp c)]
    · rw [if_neg c, if_neg (fun h => c (g2.mpr h))]
  unfold fX3_weighNeeds
  rw [g1, bd1_s, e, bd1_s, show fX3_weighNeeds_19 FU th _ il ef bf FU 0 nd = _ from f1, bd1_s]
  exact ⟨n2, rfl, f2⟩
/-- how long a whole way needs -/
def nF (H : Nat → Bool) (il ef bf : Nat → Int32) (ρ : Nat → Nat) : Nat := if wlB H il 6 = true then 0 else mxB H (fun p => uP il ef (tS bf (fun q => H q && decide (ρ q = ρ p)) p) p (ρ p)) 6
theorem nF_congr {H : Nat → Bool} {il ef bf : Nat → Int32} {ρ ρ' : Nat → Nat} (h : ∀ q, q < 6 → ρ q = ρ' q) : nF H il ef bf ρ = nF H il ef bf ρ' := by
  unfold nF
  rw [mxB_congr (H' := H) (f' := fun p => uP il ef (tS bf (fun q => H q && decide (ρ' q = ρ' p)) p) p (ρ' p)) 6 (fun _ _ => rfl) (fun p hp _ => by
    show uP il ef _ p (ρ p) = uP il ef _ p (ρ' p)
    rw [h p hp]
    unfold uP
    rw [mS_congr 6 (t' := tS bf (fun q => H q && decide (ρ' q = ρ' p)) p) (fun q hq => by unfold tS; simp only [h q hq])])]
theorem nF_rng {H : Nat → Bool} {il ef bf : Nat → Int32} {ρ : Nat → Nat} (hρ : ∀ q, q < 6 → H q = true → ρ q < 4) (v4 : ∀ k, k < 18 → 0 ≤ (il k).toInt ∧ (il k).toInt ≤ 20) (v6 : ∀ k, k < 12 → -5 ≤ (ef k).toInt ∧ (ef k).toInt ≤ 5) (v7 : ∀ k, k < 36 → -3 ≤ (bf k).toInt ∧ (bf k).toInt ≤ 3) : nF H il ef bf ρ ≤ 20 ∨ nF H il ef bf ρ = 1000 := by
  unfold nF
  split
  · omega
  · exact mxB_rng 6 (fun p hp hh => uP_rng hp (hρ p hp hh) v4 v6 (tS_rng hp v7))
theorem set63 (v : Int32) : ∃ s, s < 64 ∧ v &&& 63 = nI s := by
  have hm : v.toBitVec.toNat % 64 < 64 := Nat.mod_lt _ (by decide)
  refine ⟨v.toBitVec.toNat % 64, hm, Int32.toBitVec_inj.mp (BitVec.eq_of_toNat_eq ?_)⟩
  rw [Int32.toBitVec_and, BitVec.toNat_and]
  show v.toBitVec.toNat &&& (2 ^ 6 - 1) = (BitVec.ofNat 32 (v.toBitVec.toNat % 64)).toNat
  rw [Nat.and_two_pow_sub_one_eq_mod, BitVec.toNat_ofNat, Nat.mod_eq_of_lt (show v.toBitVec.toNat % 64 < 2 ^ 32 by omega)]
theorem ww_loop {v3 : Int32} {nd : Nat → Int32} {F : Nat → Nat} (hF : ∀ r, r < 4 → ∃ s, s < 64 ∧ (v3 >>> ((nI r * 6) &&& 31)) &&& 63 = nI s ∧ nd (64 * r + s) = nI (F r) ∧ (F r ≤ 20 ∨ F r = 1000)) : ∀ (d i : Nat), i + d = 4 → ∀ (fuel : Nat), d < fuel → fX3_weighWay_5 v3 nd fuel (nI (mxB (fun _ => true) F i)) (nI i) = some (nI (mxB (fun _ => true) F 4)) := by
  intro d
  induction d with
  | zero =>
    intro i hi fuel hf
    obtain ⟨m, rfl⟩ : ∃ m, fuel = m + 1 := ⟨fuel - 1, by omega⟩
    obtain rfl : i = 4 := by omega
    rw [fX3_weighWay_5, if_pos (show (4 : Int32) ≤ nI 4 by decide)]
  | succ d ih =>
    intro i hi fuel hf
    obtain ⟨m, rfl⟩ : ∃ m, fuel = m + 1 := ⟨fuel - 1, by omega⟩
    obtain ⟨s, e1, e2, e3, e4⟩ := hF i (by omega)
    have rg := mxB_rng (H := fun _ => true) (f := F) i (fun p hp _ => by obtain ⟨_, _, _, _, e⟩ := hF p (by omega); exact e)
    have nx := ih (i + 1) (by omega) m (by omega)
    rw [mxB, if_pos rfl] at nx
    rw [fX3_weighWay_5, if_neg (show ¬ (4 : Int32) ≤ nI i from nI_ge (b := 4) (by omega) (by decide)), setIn_s, bd1_s, e2, ldI_at (ih64 i s) (by omega) (by decide), e3, nme_s, mxI (by omega) (by omega), nme_s, nI_1]
    exact nx
theorem way_s {th v3 : Int32} {il ef bf nd : Nat → Int32} {ρ : Nat → Nat} (v4 : ∀ k, k < 18 → 0 ≤ (il k).toInt ∧ (il k).toInt ≤ 20) (v6 : ∀ k, k < 12 → -5 ≤ (ef k).toInt ∧ (ef k).toInt ≤ 5) (v7 : ∀ k, k < 36 → -3 ≤ (bf k).toInt ∧ (bf k).toInt ≤ 3) (hn : ∀ r, r < 4 → ∀ s, s < 64 → (nI s &&& (th ^^^ (-1 : Int32))) = 0 → nd (64 * r + s) = nI (vW th il ef bf r s)) (hρ : ∀ q, q < 6 → hb th q = true → ρ q < 4) (hv : ∀ r, r < 4 → ∀ q, q < 6 → bt v3 (6 * r + q) = (decide (q < 6) && hb th q && decide (ρ q = r))) : fX3_weighWay_5 v3 nd FU 0 0 = some (nI (nF (hb th) il ef bf ρ)) := by
  have ur : ∀ p, p < 6 → hb th p = true → uP il ef (tS bf (fun q => hb th q && decide (ρ q = ρ p)) p) p (ρ p) ≤ 20 ∨ uP il ef (tS bf (fun q => hb th q && decide (ρ q = ρ p)) p) p (ρ p) = 1000 := fun p hp hh => uP_rng hp (hρ p hp hh) v4 v6 (tS_rng hp v7)
  have hF : ∀ r, r < 4 → ∃ s, s < 64 ∧ (v3 >>> ((nI r * 6) &&& 31)) &&& 63 = nI s ∧ nd (64 * r + s) = nI (if wlB (hb th) il 6 = true then 0 else mxB (fun q => hb th q && decide (ρ q = r)) (fun p => uP il ef (tS bf (fun q => hb th q && decide (ρ q = ρ p)) p) p (ρ p)) 6) ∧ ((if wlB (hb th) il 6 = true then 0 else mxB (fun q => hb th q && decide (ρ q = r)) (fun p => uP il ef (tS bf (fun q => hb th q && decide (ρ q = ρ p)) p) p (ρ p)) 6) ≤ 20 ∨ (if wlB (hb th) il 6 = true then 0 else mxB (fun q => hb th q && decide (ρ q = r)) (fun p => uP il ef (tS bf (fun q => hb th q && decide (ρ q = ρ p)) p) p (ρ p)) 6) = 1000) := by
    intro r hr
    obtain ⟨s, hs, es⟩ := set63 (v3 >>> ((nI r * 6) &&& 31))
    have bs : ∀ q, q < 32 → bt (nI s) q = (decide (q < 6) && bt v3 (6 * r + q)) := fun q hq => by rw [← es, setIn_bt v3 hr hq]
    have bh : ∀ q, q < 6 → hb (nI s) q = (hb th q && decide (ρ q = r)) := fun q hq => by rw [hb_bt _ (by omega), bs q (by omega), hv r hr q hq, decide_eq_true hq, Bool.true_and, Bool.true_and]
    have sub : (nI s &&& (th ^^^ (-1 : Int32))) = 0 := by
      rw [and0_iff]
      intro q hq
      rw [bs q hq, b_xor, b_m1 q hq]
      by_cases c : q < 6
      · rw [hv r hr q c, decide_eq_true c, ← hb_bt th hq]
        cases hb th q <;> simp
      · rw [decide_eq_false c]; rfl
    refine ⟨s, hs, es, ?_, ?_⟩
    · rw [hn r hr s hs sub]
      unfold vW
      rw [mxB_congr (H' := fun q => hb th q && decide (ρ q = r)) (f' := fun p => uP il ef (tS bf (fun q => hb th q && decide (ρ q = ρ p)) p) p (ρ p)) 6 bh (fun p hp hh => by
        have er : ρ p = r := of_decide_eq_true ((Bool.and_eq_true _ _).mp hh).2
        show uP il ef (tS bf (hb (nI s)) p) p r = uP il ef (tS bf (fun q => hb th q && decide (ρ q = ρ p)) p) p (ρ p)
        rw [er]
        unfold uP
        rw [mS_congr 6 (t' := tS bf (fun q => hb th q && decide (ρ q = r)) p) (fun q hq => by unfold tS; rw [bh q hq])])]
    · split
      · omega
      · exact mxB_rng 6 (fun p hp hh => ur p hp ((Bool.and_eq_true _ _).mp hh).1)
  have l := ww_loop hF 4 0 rfl FU (by decide)
  rw [show fX3_weighWay_5 v3 nd FU 0 0 = _ from l]
  unfold nF
  cases wlB (hb th) il 6
  · simp only [Bool.false_eq_true, if_false]
    congr 2
    apply Nat.le_antisymm
    · rw [mxB_le]
      intro r hr _
      show mxB (fun q => hb th q && decide (ρ q = r)) _ 6 ≤ _
      rw [mxB_le]
      intro p hp hh
      exact (mxB_le (H := hb th) (f := fun p => uP il ef (tS bf (fun q => hb th q && decide (ρ q = ρ p)) p) p (ρ p)) 6).mp (Nat.le_refl _) p hp ((Bool.and_eq_true _ _).mp hh).1
    · rw [mxB_le]
      intro p hp hh
      have a := (mxB_le (H := fun _ => true) (f := fun r => mxB (fun q => hb th q && decide (ρ q = r)) (fun p => uP il ef (tS bf (fun q => hb th q && decide (ρ q = ρ p)) p) p (ρ p)) 6) 4).mp (Nat.le_refl _) (ρ p) (hρ p hp hh) rfl
      exact (mxB_le (H := fun q => hb th q && decide (ρ q = ρ p)) (f := fun p => uP il ef (tS bf (fun q => hb th q && decide (ρ q = ρ p)) p) p (ρ p)) 6).mp a p hp (by rw [hh, decide_eq_true (rfl : ρ p = ρ p)]; rfl)
  · rfl
