/-! in which rooms all are well soonest: what a room needs -/
def eN (d : Int32) : Nat := (d.toInt + 23).toNat
def xN (v : Int32) : Nat := v.toInt.toNat
theorem eN_s {d : Int32} (h0 : -23 ≤ d.toInt) (h1 : d.toInt ≤ 23) : eN d < 47 ∧ d = nI (eN d) - 23 := by
  unfold eN
  refine ⟨by omega, Int32.toInt_inj.mp ?_⟩
  have z : (23 : Int32).toInt = 23 := by decide
  rw [Int32.toInt_sub, nI_toInt (by omega), z, Int.bmod_eq_of_le (by omega) (by omega)]
  omega
theorem xN_s {v : Int32} (h0 : 0 ≤ v.toInt) (h1 : v.toInt ≤ 20) : xN v < 21 ∧ v = nI (xN v) := by
  unfold xN
  refine ⟨by omega, Int32.toInt_inj.mp ?_⟩
  rw [nI_toInt (by omega)]; omega
/-- how long piece p needs in room r, t being what the others do to it -/
def uP (il ef t : Nat → Int32) (p r : Nat) : Nat := mx3 (uN (eN (ef (3 * r))) (xN (il (3 * p)))) (uN (eN (ef (3 * r + 1) + mS t 6)) (xN (il (3 * p + 1)))) (uN (eN (ef (3 * r + 2))) (xN (il (3 * p + 2))))
def tS (bf : Nat → Int32) (G : Nat → Bool) (p q : Nat) : Int32 := if G q = true then bf (6 * q + p) else 0
theorem mS_congr {t t' : Nat → Int32} : ∀ n, (∀ q, q < n → t q = t' q) → mS t n = mS t' n := by
  intro n
  induction n with
  | zero => intro _; rfl
  | succ n ih => intro h; rw [mS, mS, ih (fun q hq => h q (by omega)), h n (by omega)]
theorem tS_rng {bf : Nat → Int32} {G : Nat → Bool} {p : Nat} (hp : p < 6) (v7 : ∀ k, k < 36 → -3 ≤ (bf k).toInt ∧ (bf k).toInt ≤ 3) : ∀ q, q < 6 → -3 ≤ (tS bf G p q).toInt ∧ (tS bf G p q).toInt ≤ 3 := by
  intro q hq
  unfold tS
  split
  · exact v7 _ (by omega)
  · decide
theorem par_s {il ef t : Nat → Int32} {p r : Nat} (hp : p < 6) (hr : r < 4) (v4 : ∀ k, k < 18 → 0 ≤ (il k).toInt ∧ (il k).toInt ≤ 20) (v6 : ∀ k, k < 12 → -5 ≤ (ef k).toInt ∧ (ef k).toInt ≤ 5) (ht : ∀ q, q < 6 → -3 ≤ (t q).toInt ∧ (t q).toInt ≤ 3) : (eN (ef (3 * r)) < 47 ∧ ef (3 * r) = nI (eN (ef (3 * r))) - 23) ∧ (eN (ef (3 * r + 1) + mS t 6) < 47 ∧ ef (3 * r + 1) + mS t 6 = nI (eN (ef (3 * r + 1) + mS t 6)) - 23) ∧ (eN (ef (3 * r + 2)) < 47 ∧ ef (3 * r + 2) = nI (eN (ef (3 * r + 2))) - 23) ∧ (xN (il (3 * p)) < 21 ∧ il (3 * p) = nI (xN (il (3 * p)))) ∧ (xN (il (3 * p + 1)) < 21 ∧ il (3 * p + 1) = nI (xN (il (3 * p + 1)))) ∧ (xN (il (3 * p + 2)) < 21 ∧ il (3 * p + 2) = nI (xN (il (3 * p + 2)))) := by
  have sr := mS_rng ht 6 (by omega)
  have a0 := v6 (3 * r) (by omega)
  have a1 := v6 (3 * r + 1) (by omega)
  have a2 := v6 (3 * r + 2) (by omega)
  have s1 := sum_rng a1.1 a1.2 sr.1 sr.2
  exact ⟨eN_s (by omega) (by omega), eN_s s1.1 s1.2, eN_s (by omega) (by omega), xN_s (v4 _ (by omega)).1 (v4 _ (by omega)).2, xN_s (v4 _ (by omega)).1 (v4 _ (by omega)).2, xN_s (v4 _ (by omega)).1 (v4 _ (by omega)).2⟩
theorem uP_rng {il ef t : Nat → Int32} {p r : Nat} (hp : p < 6) (hr : r < 4) (v4 : ∀ k, k < 18 → 0 ≤ (il k).toInt ∧ (il k).toInt ≤ 20) (v6 : ∀ k, k < 12 → -5 ≤ (ef k).toInt ∧ (ef k).toInt ≤ 5) (ht : ∀ q, q < 6 → -3 ≤ (t q).toInt ∧ (t q).toInt ≤ 3) : uP il ef t p r ≤ 20 ∨ uP il ef t p r = 1000 := by
  obtain ⟨⟨a0, -⟩, ⟨a1, -⟩, ⟨a2, -⟩, ⟨c0, -⟩, ⟨c1, -⟩, ⟨c2, -⟩⟩ := par_s hp hr v4 v6 ht
  have a := (uN_rng _ a0 _ c0).1
  have b := (uN_rng _ a1 _ c1).1
  have c := (uN_rng _ a2 _ c2).1
  unfold uP mx3
  (repeat' split) <;> omega
theorem lose2 {il ef bf : Nat → Int32} {p r : Nat} (hp : p < 6) (hr : r < 4) (v4 : ∀ k, k < 18 → 0 ≤ (il k).toInt ∧ (il k).toInt ≤ 20) (v6 : ∀ k, k < 12 → -5 ≤ (ef k).toInt ∧ (ef k).toInt ≤ 5) (v7 : ∀ k, k < 36 → -3 ≤ (bf k).toInt ∧ (bf k).toInt ≤ 3) (W : Int32) : fX1_hoursToLoseAll FU il ef bf (nI p) (nI r) W = some (nI (uP il ef (tS bf (hb W) p) p r)) := by
  obtain ⟨⟨a0, b0⟩, ⟨a1, b1⟩, ⟨a2, b2⟩, ⟨c0, d0⟩, ⟨c1, d1⟩, ⟨c2, d2⟩⟩ := par_s hp hr v4 v6 (tS_rng (bf := bf) (G := hb W) hp v7)
  exact lose_s (t := tS bf (hb W) p) hp hr W (fun q hq => rfl) a0 a1 a2 c0 c1 c2 b0 b1 b2 d0 d1 d2
def mxB (H : Nat → Bool) (f : Nat → Nat) : Nat → Nat
  | 0 => 0
  | n + 1 => if H n = true then (if mxB H f n < f n then f n else mxB H f n) else mxB H f n
theorem mxB_le {H : Nat → Bool} {f : Nat → Nat} {h : Nat} : ∀ n, mxB H f n ≤ h ↔ ∀ p, p < n → H p = true → f p ≤ h := by
  intro n
  induction n with
  | zero => exact ⟨fun _ p hp => by omega, fun _ => by rw [mxB]; omega⟩
  | succ n ih =>
    rw [mxB]
    constructor
    · intro hm p hp hh
      by_cases e : p = n
      · subst e; rw [if_pos hh] at hm; split at hm <;> omega
      · refine ih.mp ?_ p (by omega) hh
        split at hm
        · split at hm <;> omega
        · exact hm
    · intro hm
      have a := ih.mpr (fun p hp => hm p (by omega))
      split
      · rename_i hh
        have b := hm n (by omega) hh
        split <;> omega
      · exact a
theorem mxB_rng {H : Nat → Bool} {f : Nat → Nat} : ∀ n, (∀ p, p < n → H p = true → f p ≤ 20 ∨ f p = 1000) → mxB H f n ≤ 20 ∨ mxB H f n = 1000 := by
  intro n
  induction n with
  | zero => intro _; rw [mxB]; omega
  | succ n ih =>
    intro h
    have a := ih (fun p hp => h p (by omega))
    rw [mxB]
    split
    · rename_i hh
      have b := h n (by omega) hh
      split <;> omega
    · exact a
theorem mxB_congr {H H' : Nat → Bool} {f f' : Nat → Nat} : ∀ n, (∀ p, p < n → H p = H' p) → (∀ p, p < n → H' p = true → f p = f' p) → mxB H f n = mxB H' f' n := by
  intro n
  induction n with
  | zero => intro _ _; rfl
  | succ n ih =>
    intro h1 h2
    rw [mxB, mxB, ih (fun p hp => h1 p (by omega)) (fun p hp => h2 p (by omega)), h1 n (by omega)]
    cases e : H' n
    · rfl
    · rw [h2 n (by omega) e]
theorem mxI {m n : Nat} (hm : m ≤ 1000) (hn : n ≤ 1000) : (if nI m < nI n then nI n else nI m) = nI (if m < n then n else m) := by
  by_cases q : m < n
  · rw [if_pos q, if_pos (nI_lt q (by omega))]
  · rw [if_neg q, if_neg (nI_nlt (by omega) (by omega))]
theorem need_loop {il ef bf : Nat → Int32} {W : Int32} {r : Nat} {f : Nat → Nat} (hf : ∀ p, p < 6 → fX1_hoursToLoseAll FU il ef bf (nI p) (nI r) W = some (nI (f p)) ∧ (f p ≤ 20 ∨ f p = 1000)) : ∀ (d i : Nat), i + d = 6 → ∀ (fuel : Nat), d < fuel → fX3_needOf_5 FU W il ef bf (nI r) fuel (nI (mxB (hb W) f i)) (nI i) = some (nI (mxB (hb W) f 6)) := by
  intro d
  induction d with
  | zero =>
    intro i hi fuel hfu
    obtain ⟨m, rfl⟩ : ∃ m, fuel = m + 1 := ⟨fuel - 1, by omega⟩
    obtain rfl : i = 6 := by omega
    rw [fX3_needOf_5, if_pos (six_le rfl)]
  | succ d ih =>
    intro i hi fuel hfu
    obtain ⟨m, rfl⟩ : ∃ m, fuel = m + 1 := ⟨fuel - 1, by omega⟩
    have hi6 : i < 6 := by omega
    have nx := ih (i + 1) (by omega) m (by omega)
    have rg := mxB_rng (H := hb W) (f := f) i (fun p hp _ => (hf p (by omega)).2)
    have rf := (hf i hi6).2
    rw [mxB] at nx
    rw [fX3_needOf_5, if_neg (six_nle hi6)]
    cases e : hb W i
    · rw [e, if_neg (by decide)] at nx
      rw [bit01_0 e, if_neg (show ¬ (0 : Int32) = 1 by decide), bd1_s, nme_s, nI_1]
      exact nx
    · rw [e, if_pos rfl] at nx
      rw [bit01_1 e, if_pos rfl, (hf i hi6).1, bd1_s, nme_s, mxI (by omega) (by omega), bd1_s, nme_s, nI_1]
      exact nx
theorem need_s {il ef bf : Nat → Int32} {r : Nat} (hr : r < 4) (v4 : ∀ k, k < 18 → 0 ≤ (il k).toInt ∧ (il k).toInt ≤ 20) (v6 : ∀ k, k < 12 → -5 ≤ (ef k).toInt ∧ (ef k).toInt ≤ 5) (v7 : ∀ k, k < 36 → -3 ≤ (bf k).toInt ∧ (bf k).toInt ≤ 3) (W : Int32) : fX3_needOf FU il ef bf (nI r) W = some (nI (mxB (hb W) (fun p => uP il ef (tS bf (hb W) p) p r) 6)) := by
  have l := need_loop (W := W) (r := r) (f := fun p => uP il ef (tS bf (hb W) p) p r) (fun p hp => ⟨lose2 hp hr v4 v6 v7 W, uP_rng hp hr v4 v6 (tS_rng hp v7)⟩) 6 0 rfl FU (by decide)
  unfold fX3_needOf
  rw [show fX3_needOf_5 FU W il ef bf (nI r) FU 0 0 = _ from l, bd1_s]
/-! who is well -/
def wlB (H : Nat → Bool) (il : Nat → Int32) : Nat → Bool
  | 0 => true
  | n + 1 => (if H n = true then decide (sI il n = 0) else true) && wlB H il n
theorem wlB_iff {H : Nat → Bool} {il : Nat → Int32} : ∀ n, wlB H il n = true ↔ ∀ p, p < n → H p = true → sI il p = 0 := by
  intro n
  induction n with
  | zero => exact ⟨fun _ p hp => by omega, fun _ => rfl⟩
  | succ n ih =>
    rw [wlB, Bool.and_eq_true, ih]
    constructor
    · rintro ⟨a, b⟩ p hp hh
      by_cases e : p = n
      · subst e; rw [if_pos hh] at a; exact of_decide_eq_true a
      · exact b p (by omega) hh
    · intro h
      refine ⟨?_, fun p hp => h p (by omega)⟩
      cases e : H n
      · rfl
      · rw [if_pos rfl]; exact decide_eq_true (h n (by omega) e)
theorem wp_loop {th : Int32} {il : Nat → Int32} : ∀ (d i : Nat), i + d = 6 → ∀ (fuel : Nat) (w : Int32), d < fuel → (∀ q, q < 32 → bt w q = (decide (q < i) && hb th q && decide (sI il q = 0))) → ∃ r, fX1_wellPieces_4 th il fuel w (nI i) = some r ∧ ∀ q, q < 32 → bt r q = (decide (q < 6) && hb th q && decide (sI il q = 0)) := by
  intro d
  induction d with
  | zero =>
    intro i hi fuel w hf hw
    obtain ⟨m, rfl⟩ : ∃ m, fuel = m + 1 := ⟨fuel - 1, by omega⟩
    obtain rfl : i = 6 := by omega
    rw [fX1_wellPieces_4, if_pos (six_le rfl)]
    exact ⟨w, rfl, hw⟩
  | succ d ih =>
    intro i hi fuel w hf hw
    obtain ⟨m, rfl⟩ : ∃ m, fuel = m + 1 := ⟨fuel - 1, by omega⟩
    have hi6 : i < 6 := by omega
    have hd : ∀ q, q ≠ i → decide (q < i + 1) = decide (q < i) := by
      intro q e
      by_cases c : q < i
      · rw [decide_eq_true c, decide_eq_true (show q < i + 1 by omega)]
      · rw [decide_eq_false c, decide_eq_false (show ¬ q < i + 1 by omega)]
    have stay : (hb th i && decide (sI il i = 0)) = false → ∀ q, q < 32 → bt w q = (decide (q < i + 1) && hb th q && decide (sI il q = 0)) := by
      intro hz q hq
      by_cases e : q = i
      · subst e; rw [hw q hq, Bool.and_assoc, Bool.and_assoc, hz, Bool.and_false, Bool.and_false]
      · rw [hw q hq, hd q e]
    rw [fX1_wellPieces_4, if_neg (six_nle hi6), there_s th hi6, bd1_s, illsOf_s il hi6]
    cases e : hb th i
    · simp only [bd1_s, nme_s, if0, if1, if_true, if_false, Bool.false_eq_true, nI_1]
      exact ih (i + 1) (by omega) m w (by omega) (stay (by rw [e]; rfl))
    · by_cases z : sI il i = 0
      · simp only [bd1_s, nme_s, if0, if1, if_true, if_false, Bool.false_eq_true, nI_1, if_pos z]
        refine ih (i + 1) (by omega) m _ (by omega) (fun q hq => ?_)
        rw [b_join w (by omega) hq, hw q hq]
        by_cases c : q = i
        · subst c; rw [e, decide_eq_true z, decide_eq_true (rfl : q = q), decide_eq_true (show q < q + 1 by omega), Bool.or_true]; rfl
        · rw [hd q c, decide_eq_false c, Bool.or_false]
      · simp only [bd1_s, nme_s, if0, if1, if_true, if_false, Bool.false_eq_true, nI_1, if_neg z]
        exact ih (i + 1) (by omega) m w (by omega) (stay (by rw [e, decide_eq_false z]; rfl))
theorem hi64 : ∀ j : Nat, j < 64 → ∀ q : Nat, q < 32 → 6 ≤ q → bt (nI j) q = false := by decide +kernel
theorem well_s {th : Int32} {il : Nat → Int32} (h0 : 0 ≤ th.toInt) (h1 : th.toInt < 64) : ∃ r, fX1_wellPieces FU th il = some r ∧ (r = th ↔ wlB (hb th) il 6 = true) := by
  obtain ⟨r, f1, f2⟩ := wp_loop (th := th) (il := il) 6 0 rfl FU 0 (by decide) (fun q hq => by rw [b_0, decide_eq_false (by omega), Bool.false_and, Bool.false_and])
  unfold fX1_wellPieces
  rw [show fX1_wellPieces_4 th il FU 0 0 = _ from f1, bd1_s]
  refine ⟨r, rfl, ?_⟩
  rw [wlB_iff]
  constructor
  · intro e p hp hh
    have := f2 p (by omega)
    rw [e, ← hb_bt th (by omega), hh, decide_eq_true hp, Bool.true_and, Bool.true_and] at this
    exact of_decide_eq_true this.symm
  · intro h
    apply b_ext
    intro q hq
    rw [f2 q hq]
    by_cases c : q < 6
    · rw [← hb_bt th hq, decide_eq_true c, Bool.true_and]
      cases e : hb th q
      · rfl
      · rw [decide_eq_true (h q c e)]; rfl
    · obtain ⟨j, hj, rfl⟩ := nI_of_toInt (n := 64) h0 h1
      rw [decide_eq_false c, hi64 j hj q hq (by omega)]; rfl
