/-! the class counts them -/
theorem pb_idx : ∀ p : Nat, p < 6 → ∀ i : Nat, i < p → (((((nI i * ((11 : Int32) - nI i)) / (2 : Int32)) + nI p) - nI i) - (1 : Int32)) = nI (prN i p) := by decide +kernel
theorem pb_loop {p : Nat} (hp : p < 6) (v : Int32) : ∀ (d i : Nat), i + d = p → ∀ (fuel : Nat) (w : Int32), d < fuel → (∀ q, q < 32 → bt w q = (decide (q < i) && hb v (prN q p))) → ∃ r, fX3_partnersBefore_4 (nI p) v fuel w (nI i) = some r ∧ ∀ q, q < 32 → bt r q = (decide (q < p) && hb v (prN q p)) := by
  intro d
  induction d with
  | zero =>
    intro i hi fuel w hf hw
    obtain ⟨m, rfl⟩ : ∃ m, fuel = m + 1 := ⟨fuel - 1, by omega⟩
    obtain rfl : i = p := by omega
    rw [fX3_partnersBefore_4, if_pos (nI_le (Nat.le_refl _) (by omega))]
    exact ⟨w, rfl, hw⟩
  | succ d ih =>
    intro i hi fuel w hf hw
    obtain ⟨m, rfl⟩ : ∃ m, fuel = m + 1 := ⟨fuel - 1, by omega⟩
    have e1 := pb_idx p hp i (by omega)
    rw [fX3_partnersBefore_4, if_neg (nI_ge (by omega) (by omega)), e1, nme_s, nme_s, nme_s, nI_1]
    refine ih (i + 1) (by omega) m _ (by omega) (fun q hq => ?_)
    rw [b_or, hw q hq]
    have hd : q ≠ i → decide (q < i + 1) = decide (q < i) := by
      intro e
      by_cases c : q < i
      · rw [decide_eq_true c, decide_eq_true (show q < i + 1 by omega)]
      · rw [decide_eq_false c, decide_eq_false (show ¬ q < i + 1 by omega)]
    cases hh : hb v (prN i p)
    · rw [bit01_0 hh, b_shl i (by omega) 0 hq, b_0, Bool.and_false, Bool.or_false]
      by_cases e : q = i
      · subst e; rw [hh, Bool.and_false, Bool.and_false]
      · rw [hd e]
    · rw [bit01_1 hh, b_one (by omega) hq]
      by_cases e : q = i
      · subst e; rw [hh, decide_eq_true (rfl : q = q), decide_eq_true (show q < q + 1 by omega), Bool.or_true]; rfl
      · rw [hd e, decide_eq_false e, Bool.or_false]
theorem pb_s {p : Nat} (hp : p < 6) (v : Int32) : ∃ r, fX3_partnersBefore FU (nI p) v = some r ∧ ∀ q, q < 32 → bt r q = (decide (q < p) && hb v (prN q p)) := by
  obtain ⟨r, f1, f2⟩ := pb_loop hp v p 0 (by omega) FU 0 (by have : FU = 8192 := rfl; omega) (fun q hq => by rw [b_0, decide_eq_false (by omega), Bool.false_and])
  unfold fX3_partnersBefore
  rw [show fX3_partnersBefore_4 (nI p) v FU 0 0 = _ from f1, bd1_s]
  exact ⟨r, rfl, f2⟩
/-- what is laid for the pieces before each -/
def laid (v th : Int32) (ap : Nat → Int32) (n : Nat) : Prop := ∀ k, k < n → ∀ q, q < 32 → bt (ap k) q = (decide (q < k) && hb v (prN q k) && hb th q)
theorem laid_st {v th r : Int32} {ap : Nat → Int32} {i : Nat} (h : laid v th ap i) (hr : ∀ q, q < 32 → bt r q = (decide (q < i) && hb v (prN q i))) : laid v th (upd ap i (r &&& th)) (i + 1) := by
  intro k hk q hq
  simp only [upd]
  by_cases e : k = i
  · subst e; rw [if_pos rfl, b_and, hr q hq, hb_bt th hq]
  · rw [if_neg e]; exact h k (by omega) q hq
theorem cw_loop {th v1 v2 : Int32} : ∀ (d i : Nat), i + d = 6 → ∀ (fuel : Nat) (ap tw : Nat → Int32), d < fuel → laid v1 th ap i → laid v2 th tw i → ∃ a t, fX3_countWays_3 FU v1 th v2 fuel (nI i) ap tw = some (a, t) ∧ laid v1 th a 6 ∧ laid v2 th t 6 := by
  intro d
  induction d with
  | zero =>
    intro i hi fuel ap tw hf ha ht
    obtain ⟨m, rfl⟩ : ∃ m, fuel = m + 1 := ⟨fuel - 1, by omega⟩
    obtain rfl : i = 6 := by omega
    rw [fX3_countWays_3, if_pos (six_le rfl)]
    exact ⟨ap, tw, rfl, ha, ht⟩
  | succ d ih =>
    intro i hi fuel ap tw hf ha ht
    obtain ⟨m, rfl⟩ : ∃ m, fuel = m + 1 := ⟨fuel - 1, by omega⟩
    have hi6 : i < 6 := by omega
    obtain ⟨r1, f1, f2⟩ := pb_s hi6 v1
    obtain ⟨r2, g1, g2⟩ := pb_s hi6 v2
    rw [fX3_countWays_3, if_neg (six_nle hi6), f1, bd1_s, stI_at (j := i) rfl hi6 (by decide), g1, bd1_s, stI_at (j := i) rfl hi6 (by decide), nme_s, nI_1]
    exact ih (i + 1) (by omega) m _ _ (by omega) (laid_st ha f2) (laid_st ht g2)
theorem suits_s {ap tw : Nat → Int32} {H : Nat → Bool} {A T : Nat → Nat → Bool} {ρ : Nat → Nat} {k r : Nat} (hk : k < 6) {s : Int32} (ha : ∀ q, q < 32 → bt (ap k) q = (decide (q < k) && A q k && H q)) (ht : ∀ q, q < 32 → bt (tw k) q = (decide (q < k) && T q k && H q)) (hs : ∀ q, q < 32 → bt s q = (decide (q < k) && H q && decide (ρ q = r))) : fX3_suits ap tw (nI k) s = some (if suitF H A T ρ k r k = true then 1 else 0) := by
  have pt : ∀ q, q < k → ((H q = true → (if ρ q = r then !A q k else !T q k) = true) ↔ ((bt (ap k) q && bt s q) = false ∧ (bt (tw k) q && bt (s ^^^ (-1)) q) = false)) := by
    intro q c
    have hq : q < 32 := by omega
    rw [b_xor, b_m1 q hq, ha q hq, ht q hq, hs q hq, decide_eq_true c]
    by_cases d : ρ q = r <;> cases H q <;> cases A q k <;> cases T q k <;> simp [d]
  have key : suitF H A T ρ k r k = true ↔ ((ap k &&& s) = 0 ∧ (tw k &&& (s ^^^ (-1))) = 0) := by
    rw [suitF_iff, and0_iff, and0_iff]
    constructor
    · intro h
      constructor
      · intro q hq
        by_cases c : q < k
        · exact ((pt q c).mp (h q c)).1
        · rw [ha q hq, decide_eq_false c]; rfl
      · intro q hq
        by_cases c : q < k
        · exact ((pt q c).mp (h q c)).2
        · rw [ht q hq, decide_eq_false c]; rfl
    · rintro ⟨h1, h2⟩ q c
      exact (pt q c).mpr ⟨h1 q (by omega), h2 q (by omega)⟩
  unfold fX3_suits
  rw [ldI_at (j := k) rfl hk (by decide), ldI_at (j := k) rfl hk (by decide)]
  by_cases c1 : (ap k &&& s) = 0
  · rw [if_pos c1]
    by_cases c2 : (tw k &&& (s ^^^ (-1))) = 0
    · rw [if_pos c2, if_pos (key.mpr ⟨c1, c2⟩)]
    · rw [if_neg c2, if_neg (fun h => c2 (key.mp h).2)]
  · rw [if_neg c1, if_neg (fun h => c1 (key.mp h).1)]
theorem setIn_s (v : Int32) (r : Int32) : fX3_setIn v r = some ((v >>> ((r * 6) &&& 31)) &&& 63) := by simp [fX3_setIn]
theorem join_s (v r k : Int32) : fX3_join v r k = some (v ||| ((1 : Int32) <<< (((r * 6) + k) &&& 31))) := by simp [fX3_join]
theorem w36_loop {ap tw : Nat → Int32} {th v4 : Int32} {R u k : Nat} (hu : u ≤ 4) {F : Nat → Nat} {rec_ : (Nat → Int32) → (Nat → Int32) → Int32 → Int32 → Int32 → Int32 → Int32 → Option Int32} (hs : ∀ r, r < u → ∃ b : Bool, fX3_suits ap tw (nI k) ((v4 >>> ((nI r * 6) &&& 31)) &&& 63) = some (if b = true then 1 else 0) ∧ (b = true → rec_ ap tw th (nI R) (nI k + 1) (v4 ||| ((1 : Int32) <<< (((nI r * 6) + nI k) &&& 31))) (nI u) = some (nI (F r))) ∧ (b = false → F r = 0)) : ∀ (d i : Nat), i + d = u → ∀ (fuel : Nat), d < fuel → fX3_waysFrom_36 (nI u) v4 ap tw (nI k) rec_ th (nI R) fuel (nI (sN F i)) (nI i) = some (nI (sN F u)) := by
  intro d
  induction d with
  | zero =>
    intro i hi fuel hf
    obtain ⟨m, rfl⟩ : ∃ m, fuel = m + 1 := ⟨fuel - 1, by omega⟩
    obtain rfl : i = u := by omega
    rw [fX3_waysFrom_36, if_pos (nI_le (Nat.le_refl _) (by omega))]
  | succ d ih =>
    intro i hi fuel hf
    obtain ⟨m, rfl⟩ : ∃ m, fuel = m + 1 := ⟨fuel - 1, by omega⟩
    obtain ⟨b, e1, e2, e3⟩ := hs i (by omega)
    have nx := ih (i + 1) (by omega) m (by omega)
    rw [sN] at nx
    rw [fX3_waysFrom_36, if_neg (nI_ge (by omega) (by omega)), setIn_s, bd1_s, e1, bd1_s]
    cases b
    · rw [e3 rfl, Nat.add_zero] at nx
      simp only [bd1_s, nme_s, if0, if1, if_true, if_false, Bool.false_eq_true, nI_1]
      exact nx
    · have e2 := e2 rfl
      simp only [if_true, if1]
      rw [join_s, bd1_s, e2, bd1_s, nme_s, bd1_s, nme_s, nI_add, nI_1]
      exact nx
theorem sN_tail {F : Nat → Nat} {u c : Nat} : ∀ R, u ≤ R → (∀ r, u ≤ r → r < R → F r = c) → sN F R = sN F u + (R - u) * c := by
  intro R
  induction R with
  | zero => intro h _; obtain rfl : u = 0 := by omega
            rw [Nat.sub_self, Nat.zero_mul, Nat.add_zero]
  | succ R ih =>
    intro h hF
    by_cases e : u = R + 1
    · rw [e, Nat.sub_self, Nat.zero_mul]; rfl
    · rw [sN, ih (by omega) (fun r h1 h2 => hF r h1 (by omega)), hF R (by omega) (by omega), show R + 1 - u = (R - u) + 1 by omega, Nat.succ_mul, Nat.add_assoc]
