/-! Int32 by its bits -/
def bt (x : Int32) (i : Nat) : Bool := x.toBitVec.getLsbD i
theorem b_ext {x y : Int32} (h : ∀ i, i < 32 → bt x i = bt y i) : x = y := Int32.toBitVec_inj.mp (BitVec.eq_of_getLsbD_eq (fun i hi => h i hi))
theorem b_or (x y : Int32) (i : Nat) : bt (x ||| y) i = (bt x i || bt y i) := by unfold bt; rw [Int32.toBitVec_or, BitVec.getLsbD_or]
theorem b_and (x y : Int32) (i : Nat) : bt (x &&& y) i = (bt x i && bt y i) := by unfold bt; rw [Int32.toBitVec_and, BitVec.getLsbD_and]
theorem b_xor (x y : Int32) (i : Nat) : bt (x ^^^ y) i = (bt x i ^^ bt y i) := by unfold bt; rw [Int32.toBitVec_xor, BitVec.getLsbD_xor]
theorem b_m1 : ∀ i, i < 32 → bt (-1) i = true := by decide +kernel
theorem b_0 (i : Nat) : bt 0 i = false := BitVec.getLsbD_zero
theorem s_l : ∀ n, n < 32 → ((nI n &&& 31).toBitVec.smod 32).toNat = n := by decide +kernel
theorem b_shl (n : Nat) (hn : n < 32) (x : Int32) {i : Nat} (hi : i < 32) : bt (x <<< (nI n &&& 31)) i = (decide (n ≤ i) && bt x (i - n)) := by
  unfold bt
  rw [Int32.toBitVec_shiftLeft]
  show (x.toBitVec <<< ((nI n &&& 31).toBitVec.smod 32).toNat).getLsbD i = _
  rw [s_l n hn, BitVec.getLsbD_shiftLeft]
  rcases Nat.lt_or_ge i n with h | h
  · simp [h, Nat.not_le.mpr h]
  · simp [hi, h, Nat.not_lt.mpr h]
theorem b_sshr (n : Nat) (hn : n < 32) (x : Int32) {i : Nat} (hi : i < 32) : bt (x >>> (nI n &&& 31)) i = if n + i < 32 then bt x (n + i) else bt x 31 := by
  unfold bt
  rw [Int32.toBitVec_shiftRight]
  show (x.toBitVec.sshiftRight ((nI n &&& 31).toBitVec.smod 32).toNat).getLsbD i = _
  rw [s_l n hn, BitVec.getLsbD_sshiftRight, BitVec.msb_eq_getLsbD_last]
  simp [hi]
theorem b_63 : ∀ i, i < 32 → bt 63 i = decide (i < 6) := by decide +kernel
theorem b_1 : ∀ i, i < 32 → bt 1 i = decide (i = 0) := by decide +kernel
theorem hb_bt (t : Int32) {p : Nat} (hp : p < 32) : hb t p = bt t p := by
  have h0 : bt (t >>> (nI p &&& 31)) 0 = bt t p := by rw [b_sshr p hp t (by decide), Nat.add_zero, if_pos hp]
  rw [← h0]
  have h1 : bt 1 0 = true := by decide +kernel
  cases e : hb t p
  · have := congrArg (fun z => bt z 0) (bit01_0 e)
    simp only [b_and, b_0, h1, Bool.and_true] at this
    exact this.symm
  · have := congrArg (fun z => bt z 0) (bit01_1 e)
    simp only [b_and, h1, Bool.and_true] at this
    exact this.symm
theorem b_one {p q : Nat} (hp : p < 32) (hq : q < 32) : bt ((1 : Int32) <<< (nI p &&& 31)) q = decide (q = p) := by
  rw [b_shl p hp 1 hq]
  rcases Nat.lt_or_ge q p with h | h
  · rw [decide_eq_false (show ¬ p ≤ q by omega), Bool.false_and, decide_eq_false (show ¬ q = p by omega)]
  · rw [decide_eq_true h, Bool.true_and, b_1 _ (by omega)]
    by_cases e : q = p
    · rw [decide_eq_true (show q - p = 0 by omega), decide_eq_true e]
    · rw [decide_eq_false (show ¬ q - p = 0 by omega), decide_eq_false e]
theorem b_join (t : Int32) {p q : Nat} (hp : p < 32) (hq : q < 32) : bt (t ||| ((1 : Int32) <<< (nI p &&& 31))) q = (bt t q || decide (q = p)) := by rw [b_or, b_one hp hq]
theorem and0_iff {x y : Int32} : x &&& y = 0 ↔ ∀ q, q < 32 → (bt x q && bt y q) = false := by
  constructor
  · intro h q _; rw [← b_and, h, b_0]
  · intro h; apply b_ext; intro i hi; rw [b_and, b_0, h i hi]
theorem ix6m (r : Nat) : nI r * 6 = nI (6 * r) := by simp [nI, Int32.mul_comm]
theorem setIn_bt (v : Int32) {r q : Nat} (hr : r < 4) (hq : q < 32) : bt ((v >>> ((nI r * 6) &&& 31)) &&& 63) q = (decide (q < 6) && bt v (6 * r + q)) := by
  rw [ix6m, b_and, b_63 q hq, b_sshr (6 * r) (by omega) v hq]
  by_cases c : q < 6
  · rw [if_pos (by omega), decide_eq_true c, Bool.and_true, Bool.true_and]
  · rw [decide_eq_false c, Bool.and_false, Bool.false_and]
/-- a piece joins a room -/
theorem join_st {th v4 : Int32} {ρ : Nat → Nat} {k r : Nat} (hk : k < 6) (hr : r < 4) (e : hb th k = true) (hv : ∀ r, r < 4 → ∀ q, q < 6 → bt v4 (6 * r + q) = (decide (q < k) && hb th q && decide (ρ q = r))) : ∀ r', r' < 4 → ∀ q, q < 6 → bt (v4 ||| ((1 : Int32) <<< (((nI r * 6) + nI k) &&& 31))) (6 * r' + q) = (decide (q < k + 1) && hb th q && decide (stR ρ k r q = r')) := by
  intro r' hr' q hq
  rw [ix6, b_join v4 (by omega) (by omega), hv r' hr' q hq]
  unfold stR
  by_cases c : q = k
  · subst c
    rw [decide_eq_false (show ¬ q < q by omega), decide_eq_true (show q < q + 1 by omega), e, if_pos rfl, Bool.false_and, Bool.false_and, Bool.false_or, Bool.true_and, Bool.true_and]
    by_cases d : r = r'
    · rw [decide_eq_true d, decide_eq_true (by rw [d])]
    · rw [decide_eq_false d, decide_eq_false (by omega)]
  · rw [if_neg c, decide_eq_false (show ¬ 6 * r' + q = 6 * r + k by omega), Bool.or_false]
    by_cases d : q < k
    · rw [decide_eq_true d, decide_eq_true (show q < k + 1 by omega)]
    · rw [decide_eq_false d, decide_eq_false (show ¬ q < k + 1 by omega)]
