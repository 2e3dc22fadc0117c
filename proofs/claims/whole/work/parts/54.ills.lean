/-! ills together; as it is now; who is well; bills -/
def sI (f : Nat → Int32) (p : Nat) : Int32 := f (3 * p) + f (3 * p + 1) + f (3 * p + 2)
theorem illOf_s (il : Nat → Int32) {p i : Nat} (hp : p < 6) (hi : i < 3) : fX1_illOf il (nI p) (nI i) = some (il (3 * p + i)) := by
  unfold fX1_illOf; rw [ldI_at (ix3 p i) (by omega) (by decide)]
theorem illsOf_s (il : Nat → Int32) {p : Nat} (hp : p < 6) : fX1_illsOf il (nI p) = some (sI il p) := by
  unfold fX1_illsOf
  rw [show fX1_illOf il (nI p) 0 = _ from illOf_s il (i := 0) hp (by omega), show fX1_illOf il (nI p) 1 = _ from illOf_s il (i := 1) hp (by omega), show fX1_illOf il (nI p) 2 = _ from illOf_s il (i := 2) hp (by omega), bd1_s, bd1_s, bd1_s]
  rfl
theorem millsOf_s (nw : Nat → Int32) {p : Nat} (hp : p < 6) : fX8_illsOf nw (nI p) = some (sI nw p) := by
  unfold fX8_illsOf
  rw [ldI_at (iy30 p) (by omega) (by decide), ldI_at (iy31 p) (by omega) (by decide), ldI_at (iy32 p) (by omega) (by decide)]
  rfl
theorem sI_eq {f g : Nat → Int32} (h : ∀ k, k < 18 → f k = g k) {p : Nat} (hp : p < 6) : sI f p = sI g p := by
  unfold sI; rw [h _ (by omega), h _ (by omega), h _ (by omega)]
theorem asNow_loop (bk : Nat → Int32) : ∀ (d i : Nat), i + d = 26 → ∀ (fuel : Nat) (g : Nat → Int32), d < fuel → fX8_asNow_2 bk fuel (nI i) g = some (fun k => if i ≤ k ∧ k < 26 then bk k else g k) := by
  intro d
  induction d with
  | zero =>
    intro i hi fuel g hf
    obtain ⟨m, rfl⟩ : ∃ m, fuel = m + 1 := ⟨fuel - 1, by omega⟩
    rw [fX8_asNow_2, if_pos (show 26 ≤ nI i from nI_le (a := 26) (by omega) (by omega))]
    congr 1; funext k; rw [if_neg (by omega)]
  | succ d ih =>
    intro i hi fuel g hf
    obtain ⟨m, rfl⟩ : ∃ m, fuel = m + 1 := ⟨fuel - 1, by omega⟩
    rw [fX8_asNow_2, if_neg (show ¬ 26 ≤ nI i from nI_ge (b := 26) (by omega) (by decide)), ldI_at (j := i) rfl (by omega) (by decide), stI_at (j := i) rfl (by omega) (by decide), nme_s, nI_1, ih (i + 1) (by omega) m _ (by omega)]
    congr 1; funext k; simp only [upd]
    by_cases h1 : k = i
    · subst h1; rw [if_neg (by omega), if_pos rfl, if_pos (by omega)]
    · rw [if_neg h1]
      by_cases h2 : i + 1 ≤ k ∧ k < 26
      · rw [if_pos h2, if_pos (by omega)]
      · rw [if_neg h2, if_neg (by omega)]
def cp26 (bk nw : Nat → Int32) : Nat → Int32 := fun k => if 0 ≤ k ∧ k < 26 then bk k else nw k
theorem asNow_s (bk nw : Nat → Int32) : fX8_asNow FU bk nw = some (cp26 bk nw) := by
  unfold fX8_asNow
  rw [show fX8_asNow_2 bk FU 0 nw = _ from asNow_loop bk 26 0 rfl FU nw (by decide), bd1_s]; rfl
theorem cp26_at (bk nw : Nat → Int32) {k : Nat} (h : k < 26) : cp26 bk nw k = bk k := by unfold cp26; rw [if_pos ⟨by omega, h⟩]
theorem bit01 (t : Int32) (p : Nat) : ((t >>> (nI p &&& 31)) &&& (1 : Int32)) = 0 ∨ ((t >>> (nI p &&& 31)) &&& (1 : Int32)) = 1 := by
  generalize t >>> (nI p &&& 31) = x
  have h : x.toBitVec &&& 1#32 = 0#32 ∨ x.toBitVec &&& 1#32 = 1#32 := by
    have : (x.toBitVec &&& 1#32).toNat = x.toBitVec.toNat % 2 := by rw [BitVec.toNat_and]; exact Nat.and_one_is_mod _
    rcases Nat.mod_two_eq_zero_or_one x.toBitVec.toNat with h | h
    · exact Or.inl (BitVec.eq_of_toNat_eq (by rw [this, h]; rfl))
    · exact Or.inr (BitVec.eq_of_toNat_eq (by rw [this, h]; rfl))
  rcases h with h | h
  · exact Or.inl (Int32.toBitVec_inj.mp h)
  · exact Or.inr (Int32.toBitVec_inj.mp h)
theorem bit01_1 {t : Int32} {p : Nat} (h : hb t p = true) : ((t >>> (nI p &&& 31)) &&& (1 : Int32)) = 1 := by unfold hb at h; exact of_decide_eq_true h
theorem bit01_0 {t : Int32} {p : Nat} (h : hb t p = false) : ((t >>> (nI p &&& 31)) &&& (1 : Int32)) = 0 := by
  rcases bit01 t p with h1 | h1
  · exact h1
  · unfold hb at h; exact absurd h1 (of_decide_eq_false h)
theorem six_le {i : Nat} (h : i = 6) : (6 : Int32) ≤ nI i := by subst h; decide
theorem six_nle {i : Nat} (h : i < 6) : ¬ (6 : Int32) ≤ nI i := nI_ge (b := 6) h (by decide)
theorem well_loop (th : Int32) {il nw : Nat → Int32} (h : ∀ k, k < 18 → nw k = il k) : ∀ (d i : Nat), i + d = 6 → ∀ (fuel : Nat) (w : Int32), d < fuel → ∃ r, fX1_wellPieces_4 th il fuel w (nI i) = some r ∧ fX8_well_8 th nw fuel w (nI i) = some r := by
  intro d
  induction d with
  | zero =>
    intro i hi fuel w hf
    obtain ⟨m, rfl⟩ : ∃ m, fuel = m + 1 := ⟨fuel - 1, by omega⟩
    rw [fX1_wellPieces_4, fX8_well_8, if_pos (six_le (by omega)), if_pos (six_le (by omega))]
    exact ⟨_, rfl, rfl⟩
  | succ d ih =>
    intro i hi fuel w hf
    obtain ⟨m, rfl⟩ : ∃ m, fuel = m + 1 := ⟨fuel - 1, by omega⟩
    have hi6 : i < 6 := by omega
    rw [fX1_wellPieces_4, fX8_well_8, if_neg (six_nle hi6), if_neg (six_nle hi6), there_s th hi6, has_s, illsOf_s il hi6, millsOf_s nw hi6, sI_eq h hi6]
    cases hb th i
    · simp only [bd1_s, nme_s, if0, if1, if_true, if_false, Bool.false_eq_true, nI_1, Int32.or_zero]
      exact ih (i + 1) (by omega) m w (by omega)
    · simp only [if_true, bd1_s, if1, nme_s, nI_1]
      by_cases hz : sI il i = 0
      · simp only [if_pos hz, bd1_s]; exact ih (i + 1) (by omega) m _ (by omega)
      · simp only [if_neg hz, bd1_s, Int32.or_zero]; exact ih (i + 1) (by omega) m _ (by omega)
theorem ps_well : PS_well := by
  intro th sa hr il ro ef bf li cn be ho af le sg mo mt bk ds ba ml ms si sn pa mm nw hH hP hM _
  obtain ⟨⟨v1, v2, v3, v4, v5, v6, v7, v8, v9, v10, v11⟩, h1, h2, h3, h4, h5, h6, h7, h8, h9, h10⟩ := hH
  subst h1
  obtain ⟨r, g1, g2⟩ := well_loop mt (il := il) (nw := cp26 bk nw) (fun k hk => (cp26_at bk nw (by omega)).trans (h2 k hk)) 6 0 rfl FU 0 (by decide)
  unfold fX7_well fX1_wellPieces fX8_well
  rw [asNow_s, bd1_s, show fX1_wellPieces_4 mt il FU 0 0 = _ from g1, show fX8_well_8 mt (cp26 bk nw) FU 0 0 = _ from g2, bd1_s, bd1_s, bd1_s]
  exact ⟨_, _, rfl, rfl⟩
/-! bills -/
theorem rng_sum {a b : Int32} {m n : Int} (h1 : 0 ≤ a.toInt) (h2 : a.toInt ≤ m) (h3 : 0 ≤ b.toInt) (h4 : b.toInt ≤ n) (hm : m + n < 2 ^ 31) : (a + b).toInt = a.toInt + b.toInt := by
  rw [Int32.toInt_add, Int.bmod_eq_of_le (by omega) (by omega)]
theorem sI_rng {f : Nat → Int32} (h : ∀ k, k < 18 → 0 ≤ (f k).toInt ∧ (f k).toInt ≤ 20) {p : Nat} (hp : p < 6) : 0 ≤ (sI f p).toInt ∧ (sI f p).toInt ≤ 60 := by
  have a := h (3 * p) (by omega)
  have b := h (3 * p + 1) (by omega)
  have c := h (3 * p + 2) (by omega)
  have e1 := rng_sum a.1 a.2 b.1 b.2 (by decide)
  have e2 := rng_sum (a := f (3 * p) + f (3 * p + 1)) (b := f (3 * p + 2)) (m := 40) (n := 20) (by omega) (by omega) c.1 c.2 (by decide)
  unfold sI
  rw [e2, e1]; omega
theorem all_loop (th : Int32) {il nw : Nat → Int32} (hv : ∀ k, k < 18 → 0 ≤ (il k).toInt ∧ (il k).toInt ≤ 20) (h : ∀ k, k < 18 → nw k = il k) : ∀ (d i : Nat), i + d = 6 → ∀ (fuel : Nat) (w c z : Int32), d < fuel → 0 ≤ w.toInt → w.toInt ≤ 60 * i → 0 ≤ c.toInt → c.toInt ≤ i → z = w + c → ∃ r q, fX1_illsOfAll_4 th il fuel w (nI i) = some r ∧ fX8_bits_4 th fuel c (nI i) = some q ∧ fX8_bill_33 th nw fuel z (nI i) = some (r + q) ∧ (0 ≤ r.toInt ∧ r.toInt ≤ 360) ∧ (c.toInt ≤ q.toInt ∧ q.toInt ≤ 6) ∧ (∀ p, i ≤ p → p < 6 → hb th p = true → c.toInt < q.toInt) := by
  intro d
  induction d with
  | zero =>
    intro i hi fuel w c z hf hw hw2 hc hc2 hz
    obtain ⟨m, rfl⟩ : ∃ m, fuel = m + 1 := ⟨fuel - 1, by omega⟩
    rw [fX1_illsOfAll_4, fX8_bits_4, fX8_bill_33, if_pos (six_le (by omega)), if_pos (six_le (by omega)), if_pos (six_le (by omega))]
    exact ⟨_, _, rfl, rfl, by rw [hz], ⟨hw, by omega⟩, ⟨by omega, by omega⟩, fun p h1 h2 => by omega⟩
  | succ d ih =>
    intro i hi fuel w c z hf hw hw2 hc hc2 hz
    obtain ⟨m, rfl⟩ : ∃ m, fuel = m + 1 := ⟨fuel - 1, by omega⟩
    have hi6 : i < 6 := by omega
    have hs := sI_rng hv hi6
    rw [fX1_illsOfAll_4, fX8_bits_4, fX8_bill_33, if_neg (six_nle hi6), if_neg (six_nle hi6), if_neg (six_nle hi6), there_s th hi6, has_s, illsOf_s il hi6, millsOf_s nw hi6, sI_eq h hi6]
    have z1 : (1 : Int32).toInt = 1 := by decide
    cases hb' : hb th i
    · have e0 : ((th >>> (nI i &&& 31)) &&& (1 : Int32)) = 0 := bit01_0 hb'
      simp only [bd1_s, nme_s, if0, if1, if_true, if_false, Bool.false_eq_true, nI_1, Int32.add_zero, e0]
      obtain ⟨r, q, g1, g2, g3, g4, g5, g6⟩ := ih (i + 1) (by omega) m w c z (by omega) hw (by omega) hc (by omega) hz
      exact ⟨r, q, g1, g2, g3, g4, g5, fun p h1 h2 h3 => g6 p (Nat.lt_of_le_of_ne h1 (fun e => by subst e; rw [hb'] at h3; cases h3)) h2 h3⟩
    · have e1 : ((th >>> (nI i &&& 31)) &&& (1 : Int32)) = 1 := bit01_1 hb'
      simp only [bd1_s, nme_s, if0, if1, if_true, if_false, Bool.false_eq_true, nI_1, e1]
      have t1 := rng_sum (a := w) (b := sI il i) (m := 300) (n := 60) hw (by omega) hs.1 hs.2 (by decide)
      have t2 := rng_sum (a := c) (b := 1) (m := 6) (n := 1) hc (by omega) (by decide) (by decide) (by decide)
      obtain ⟨r, q, g1, g2, g3, g4, g5, g6⟩ := ih (i + 1) (by omega) m (w + sI il i) (c + 1) (z + (sI il i + 1)) (by omega) (by omega) (by omega) (by omega) (by omega) (by rw [hz]; ac_rfl)
      exact ⟨r, q, g1, g2, g3, g4, ⟨by omega, g5.2⟩, fun p h1 h2 h3 => by omega⟩
theorem cut_s {a b c : Int32} (h : 1 ≤ c.toInt) : fX1_cutShare a b c = some (a * b / c) := by
  unfold fX1_cutShare
  have z1 : (1 : Int32).toInt = 1 := by decide
  have hne : ¬ c = 0 := fun e => by subst e; revert h; decide
  rw [if_pos (Int32.le_iff_toInt_le.mpr (by omega))]
  unfold dvI; rw [if_neg hne]
theorem dv_s {α : Type} {a c : Int32} {k : Int32 → Option α} (h : 1 ≤ c.toInt) : dvI a c k = k (a / c) := by
  have hne : ¬ c = 0 := fun e => by subst e; revert h; decide
  unfold dvI; rw [if_neg hne]
theorem share_loop (th : Int32) {il nw : Nat → Int32} (h : ∀ k, k < 18 → nw k = il k) (v1 y : Int32) (hy : 1 ≤ y.toInt) {p : Nat} (hp : p < 6) : ∀ (d i : Nat), i + d = 6 → ∀ (fuel : Nat) (a b : Int32), d < fuel → ∃ r q, fX1_shareOf_22 th il v1 y (nI p) fuel a b (nI i) = some (r, q) ∧ fX8_bill_82 th nw v1 y (nI p) fuel a b (nI i) = some (r, q) := by
  intro d
  induction d with
  | zero =>
    intro i hi fuel a b hf
    obtain ⟨m, rfl⟩ : ∃ m, fuel = m + 1 := ⟨fuel - 1, by omega⟩
    rw [fX1_shareOf_22, fX8_bill_82, if_pos (six_le (by omega)), if_pos (six_le (by omega))]
    exact ⟨_, _, rfl, rfl⟩
  | succ d ih =>
    intro i hi fuel a b hf
    obtain ⟨m, rfl⟩ : ∃ m, fuel = m + 1 := ⟨fuel - 1, by omega⟩
    have hi6 : i < 6 := by omega
    rw [fX1_shareOf_22, fX8_bill_82, if_neg (six_nle hi6), if_neg (six_nle hi6), there_s th hi6, has_s]
    unfold fX1_paysAhead
    rw [illsOf_s il hi6, millsOf_s nw hi6, sI_eq h hi6, illsOf_s il hp, millsOf_s nw hp, sI_eq h hp]
    cases hb th i
    · simp only [bd1_s, nme_s, if0, if1, if_true, if_false, Bool.false_eq_true, nI_1, bd2_s]
      exact ih (i + 1) (by omega) m a b (by omega)
    · simp only [bd1_s, nme_s, if0, if1, if_true, if_false, Bool.false_eq_true, nI_1, bd2_s, cut_s hy, dv_s hy]
      by_cases c1 : sI il p < sI il i
      · simp only [if_pos c1, bd1_s, nme_s, if0, if1, if_true, if_false, Bool.false_eq_true, nI_1, bd2_s]; exact ih (i + 1) (by omega) m _ _ (by omega)
      · by_cases c2 : sI il i = sI il p
        · by_cases c3 : nI p ≤ nI i
          · simp only [if_neg c1, if_pos c2, if_pos c3, bd1_s, nme_s, if0, if1, if_true, if_false, Bool.false_eq_true, nI_1, bd2_s]; exact ih (i + 1) (by omega) m _ _ (by omega)
          · simp only [if_neg c1, if_pos c2, if_neg c3, bd1_s, nme_s, if0, if1, if_true, if_false, Bool.false_eq_true, nI_1, bd2_s]; exact ih (i + 1) (by omega) m _ _ (by omega)
        · simp only [if_neg c1, if_neg c2, bd1_s, nme_s, if0, if1, if_true, if_false, Bool.false_eq_true, nI_1, bd2_s]; exact ih (i + 1) (by omega) m _ _ (by omega)
theorem ps_bill : PS_bill := by
  intro th sa hr il ro ef bf li cn be ho af le sg mo mt bk ds ba ml ms si sn pa mm nw hH hP hM a1 a2
  obtain ⟨⟨v1, v2, v3, v4, v5, v6, v7, v8, v9, v10, v11⟩, h1, h2, h3, h4, h5, h6, h7, h8, h9, h10⟩ := hH
  subst h1
  unfold fX7_bill fX8_bill
  rcases there_cases mt a2 with ⟨g1, g2⟩ | ⟨p, hp, rfl, hbp, g1, g2⟩
  · simp only [g1, g2, bd1_s, nme_s, if0, if1, if_true, if_false, Bool.false_eq_true, nI_1]; exact ⟨_, _, rfl, rfl⟩
  simp only [g1, g2, bd1_s, nme_s, if0, if1, if_true, if_false, Bool.false_eq_true, nI_1, betw_in]
  rcases in_cases a1 0 9999 with ⟨g, -⟩ | ⟨g, b1, c1⟩
  · simp only [g, bd1_s, nme_s, if0, if1, if_true, if_false, Bool.false_eq_true, nI_1]; exact ⟨_, _, rfl, rfl⟩
  simp only [g, bd1_s, nme_s, if0, if1, if_true, if_false, Bool.false_eq_true, nI_1, asNow_s]
  have hk : ∀ k, k < 18 → cp26 bk nw k = il k := fun k hk => (cp26_at bk nw (by omega)).trans (h2 k hk)
  obtain ⟨r, q, e1, e2, e3, e4, e5, e6⟩ := all_loop mt v4 hk 6 0 rfl FU 0 0 0 (by decide) (by decide) (by decide) (by decide) (by decide) rfl
  have e2 : fX8_bits_4 mt FU 0 0 = some q := e2
  have e1 : fX1_illsOfAll_4 mt il FU 0 0 = some r := e1
  have e3 : fX8_bill_33 mt (cp26 bk nw) FU 0 0 = some (r + q) := e3
  have hq : 0 < q.toInt := e6 p (by omega) hp hbp
  obtain ⟨q2, f1, f2⟩ := pop64 v1.1 v1.2
  have f1 : bd1 (fX8_bits_4 mt FU 0 0) (fun u => some u) = some q2 := f1
  rw [e2, bd1_s] at f1
  obtain rfl := Option.some.inj f1
  have hy : 1 ≤ (r + q).toInt := by rw [rng_sum (m := 360) (n := 6) e4.1 e4.2 (by omega) e5.2 (by decide)]; omega
  obtain ⟨s1, s2, f3, f4⟩ := share_loop mt hk a1 (r + q) hy hp 6 0 rfl FU a1 0 (by decide)
  have f3 : fX1_shareOf_22 mt il a1 (r + q) (nI p) FU a1 0 0 = some (s1, s2) := f3
  have f4 : fX8_bill_82 mt (cp26 bk nw) a1 (r + q) (nI p) FU a1 0 0 = some (s1, s2) := f4
  unfold fX1_shareOf fX1_illsOfAll
  rw [e1, f2, e3]
  simp only [bd1_s, nme_s, if0, if1, if_true, if_false, Bool.false_eq_true, nI_1]
  rw [f3, f4, bd2_s, bd2_s, illsOf_s il hp, millsOf_s _ hp, sI_eq hk hp]
  simp only [bd1_s, nme_s, if0, if1, if_true, if_false, Bool.false_eq_true, nI_1, cut_s hy, dv_s hy]
  by_cases c : s1 ≤ s2
  · simp only [if_pos c, bd1_s, nme_s, if0, if1, if_true, if_false, Bool.false_eq_true, nI_1]; exact ⟨_, _, rfl, rfl⟩
  · simp only [if_neg c, bd1_s, nme_s, if0, if1, if_true, if_false, Bool.false_eq_true, nI_1]; exact ⟨_, _, rfl, rfl⟩
