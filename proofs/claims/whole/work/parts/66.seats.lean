/-! guests to seats -/
theorem bit_lk : ∀ a : Nat, a < 64 → ∀ t : Nat, t < 64 → ∀ p : Nat, p < 6 → hb (nI a &&& (nI t ^^^ (-1 : Int32))) p = (hb (nI a) p && !hb (nI t) p) := by decide +kernel
theorem bit_and : ∀ a : Nat, a < 64 → ∀ t : Nat, t < 64 → (nI a &&& nI t) = nI (a &&& t) ∧ a &&& t < 64 := by decide +kernel
theorem ig64 (g t : Nat) : nI (g + 1) * 64 + nI t = nI (64 * g + 64 + t) := by
  rw [show 64 * g + 64 + t = (g + 1) * 64 + t by omega]; simp only [nI, Int32.ofNat_add, Int32.ofNat_mul]; rfl
theorem ih64 (g t : Nat) : nI g * 64 + nI t = nI (64 * g + t) := by simp [nI, Int32.mul_comm]
theorem im64 (g t : Nat) : 64 * nI g + 64 + nI t = nI (64 * g + 64 + t) := by simp [nI]
theorem in64 (g t : Nat) : 64 * nI g + nI t = nI (64 * g + t) := by simp [nI]
theorem most_loop {mo mm li : Nat → Int32} {g t a : Nat} {th : Int32} (hg : g < 6) (ht : t < 64) (ha : a < 64) (hla : li g &&& th = nI a) (he : ∀ k, 64 * g + 64 ≤ k → k < 448 → mo k = mm k) : ∀ (d i : Nat), i + d = 6 → ∀ (fuel : Nat) (w : Int32), d < fuel → ∃ r, fX4_mostFrom_22 (nI a) (nI t) mo (nI (g + 1) * 64) fuel w (nI i) = some r ∧ fX8_laySeats_32 li (nI g) th (nI t) mm fuel w (nI i) = some r := by
  intro d
  induction d with
  | zero =>
    intro i hi fuel w hf
    obtain ⟨m, rfl⟩ : ∃ m, fuel = m + 1 := ⟨fuel - 1, by omega⟩
    rw [fX4_mostFrom_22, fX8_laySeats_32, if_pos (six_le (by omega)), if_pos (six_le (by omega))]
    exact ⟨_, rfl, rfl⟩
  | succ d ih =>
    intro i hi fuel w hf
    obtain ⟨m, rfl⟩ : ∃ m, fuel = m + 1 := ⟨fuel - 1, by omega⟩
    have hi6 : i < 6 := by omega
    obtain ⟨eo, ho⟩ := bit_or t ht i hi6
    rw [fX4_mostFrom_22, fX8_laySeats_32, if_neg (six_nle hi6), if_neg (six_nle hi6), ldI_at (j := g) rfl hg (by decide), hla, has_s, has_s, eo, ldI_at (ig64 g _) (by omega) (by decide), ldI_at (im64 g _) (by omega) (by decide), he _ (by omega) (by omega)]
    have hc := bit_lk a ha t ht i hi6
    generalize mm (64 * g + 64 + (t ||| 2 ^ i)) = x
    cases h1 : hb (nI a) i
    · rw [h1, Bool.false_and] at hc
      rw [bit01_0 hc, if_neg (by decide)]
      simp only [bd1_s, nme_s, if0, if1, if_true, if_false, Bool.false_eq_true, nI_1]
      exact ih (i + 1) (by omega) m w (by omega)
    · cases h2 : hb (nI t) i
      · rw [h1, h2] at hc
        rw [bit01_1 hc, if_pos rfl]
        by_cases c : w < 1 + x
        · have c' : ¬ 1 + x ≤ w := Int32.not_le.mpr c
          simp only [if_pos c, if_neg c', bd1_s, nme_s, if0, if1, if_true, if_false, Bool.false_eq_true, nI_1]
          exact ih (i + 1) (by omega) m _ (by omega)
        · have c' : 1 + x ≤ w := Int32.not_lt.mp c
          simp only [if_neg c, if_pos c', bd1_s, nme_s, if0, if1, if_true, if_false, Bool.false_eq_true, nI_1]
          exact ih (i + 1) (by omega) m _ (by omega)
      · rw [h1, h2] at hc
        rw [bit01_0 hc, if_neg (by decide)]
        simp only [bd1_s, nme_s, if0, if1, if_true, if_false, Bool.false_eq_true, nI_1]
        exact ih (i + 1) (by omega) m w (by omega)
theorem taken_loop {ml : Nat → Int32} {g a : Nat} {th : Int32} (hg : g < 6) (ha : a < 64) (hla : ml g &&& th = nI a) : ∀ (d i : Nat), i + d = 64 → ∀ (fuel : Nat) (mo mm : Nat → Int32), d < fuel → (∀ k, 64 * g + 64 ≤ k → k < 448 → mo k = mm k) → (∀ k, 64 * g ≤ k → k < 64 * g + i → mo k = mm k) → ∃ o2 m2, fX4_weigh_21 FU (nI g) (nI a) fuel (nI i) mo = some o2 ∧ fX8_laySeats_8 FU (nI g) ml th fuel (nI i) mm = some m2 ∧ (∀ k, 64 * g ≤ k → k < 448 → o2 k = m2 k) ∧ (∀ k, 64 * g + 64 ≤ k → o2 k = mo k) ∧ (∀ k, 64 * g + 64 ≤ k → m2 k = mm k) := by
  intro d
  induction d with
  | zero =>
    intro i hi fuel mo mm hf he h2
    obtain ⟨m, rfl⟩ : ∃ m, fuel = m + 1 := ⟨fuel - 1, by omega⟩
    have hp : (64 : Int32) ≤ nI i := nI_le (a := 64) (by omega) (by omega)
    rw [fX4_weigh_21, fX8_laySeats_8, if_pos hp, if_pos hp]
    refine ⟨_, _, rfl, rfl, fun k k1 k2 => ?_, fun _ _ => rfl, fun _ _ => rfl⟩
    rcases Nat.lt_or_ge k (64 * g + i) with h | h
    · exact h2 k k1 h
    · exact he k (by omega) k2
  | succ d ih =>
    intro i hi fuel mo mm hf he h2
    obtain ⟨m, rfl⟩ : ∃ m, fuel = m + 1 := ⟨fuel - 1, by omega⟩
    have hp : ¬ (64 : Int32) ≤ nI i := nI_ge (b := 64) (by omega) (by decide)
    obtain ⟨r, e1, e2⟩ := most_loop (t := i) hg (by omega) ha hla he 6 0 rfl FU (mm (64 * g + 64 + i)) (by decide)
    rw [fX4_weigh_21, fX8_laySeats_8, if_neg hp, if_neg hp]
    unfold fX4_mostFrom
    rw [nI_1 g, nme_s, ldI_at (ig64 g i) (by omega) (by decide), he _ (by omega) (by omega), show fX4_mostFrom_22 (nI a) (nI i) mo (nI (g + 1) * 64) FU (mm (64 * g + 64 + i)) 0 = _ from e1, bd1_s, bd1_s, stI_at (ih64 g i) (by omega) (by decide), ldI_at (im64 g i) (by omega) (by decide), show fX8_laySeats_32 ml (nI g) th (nI i) mm FU (mm (64 * g + 64 + i)) 0 = _ from e2, bd1_s, stI_at (in64 g i) (by omega) (by decide), nme_s, nme_s, nI_1]
    obtain ⟨o2, m2, f1, f2, f3, f4, f5⟩ := ih (i + 1) (by omega) m (upd mo (64 * g + i) r) (upd mm (64 * g + i) r) (by omega) (fun k k1 k2 => by simp only [upd]; rw [if_neg (by omega), if_neg (by omega)]; exact he k k1 k2) (fun k k1 k2 => by
      simp only [upd]
      by_cases c : k = 64 * g + i
      · rw [if_pos c, if_pos c]
      · rw [if_neg c, if_neg c]; exact h2 k k1 (by omega))
    refine ⟨o2, m2, f1, f2, f3, fun k hk => ?_, fun k hk => ?_⟩
    · rw [f4 k hk]; simp only [upd]; rw [if_neg (by omega)]
    · rw [f5 k hk]; simp only [upd]; rw [if_neg (by omega)]
theorem lay_loop {li ml : Nat → Int32} {th : Int32} (hl : ∀ k, k < 6 → ml k = li k) (hv : ∀ k, k < 6 → 0 ≤ (li k).toInt ∧ (li k).toInt < 64) (ht0 : 0 ≤ th.toInt) (ht1 : th.toInt < 64) : ∀ (d n : Nat), n + d = 6 → ∀ (fuel : Nat) (mo mm : Nat → Int32), d < fuel → (∀ k, 64 * (6 - n) ≤ k → k < 448 → mo k = mm k) → ∃ o2 m2, fX4_weigh_2 FU li th fuel (nI 5 - nI n) mo = some o2 ∧ fX8_laySeats_2 FU ml th fuel (nI 5 - nI n) mm = some m2 ∧ (∀ k, k < 448 → o2 k = m2 k) ∧ (∀ k, 384 ≤ k → o2 k = mo k) ∧ (∀ k, 384 ≤ k → m2 k = mm k) := by
  intro d
  induction d with
  | zero =>
    intro n hn fuel mo mm hf he
    obtain ⟨m, rfl⟩ : ∃ m, fuel = m + 1 := ⟨fuel - 1, by omega⟩
    obtain rfl : n = 6 := by omega
    rw [fX4_weigh_2, fX8_laySeats_2, if_pos (by decide), if_pos (by decide)]
    exact ⟨_, _, rfl, rfl, fun k hk => he k (by omega) hk, fun _ _ => rfl, fun _ _ => rfl⟩
  | succ d ih =>
    intro n hn fuel mo mm hf he
    obtain ⟨m, rfl⟩ : ∃ m, fuel = m + 1 := ⟨fuel - 1, by omega⟩
    have hp : 5 - n < 6 := by omega
    have en : nI 5 - nI n = nI (5 - n) := sub_nI (by omega)
    have en2 : nI (5 - n) + (-1) = nI 5 - nI (n + 1) := by
      rw [← en, nI_succ n]; simp only [Int32.sub_eq_add_neg, Int32.neg_add]; ac_rfl
    obtain ⟨a, ha, ea⟩ := nI_of_toInt (n := 64) (hv _ hp).1 (hv _ hp).2
    obtain ⟨b, hb', eb⟩ := nI_of_toInt (n := 64) ht0 ht1
    obtain ⟨e1, e2⟩ := bit_and a ha b hb'
    have hla : li (5 - n) &&& th = nI (a &&& b) := by rw [ea, eb, e1]
    obtain ⟨o2, m2, f1, f2, f3, f4, f5⟩ := taken_loop (ml := ml) (th := th) (g := 5 - n) hp e2 (by rw [hl _ hp]; exact hla) 64 0 rfl FU mo mm (by decide) (fun k k1 k2 => he k (by omega) k2) (fun k k1 k2 => by omega)
    rw [fX4_weigh_2, fX8_laySeats_2, en, if_neg (nI_pos (by omega)), if_neg (nI_pos (by omega)), ldI_at (j := 5 - n) rfl hp (by decide), hla, nme_s, show fX4_weigh_21 FU (nI (5 - n)) (nI (a &&& b)) FU 0 mo = _ from f1, show fX8_laySeats_8 FU (nI (5 - n)) ml th FU 0 mm = _ from f2, bd1_s, bd1_s, nme_s, nme_s, en2]
    obtain ⟨o3, m3, g1, g2, g3, g4, g5⟩ := ih (n + 1) (by omega) m o2 m2 (by omega) (fun k k1 k2 => f3 k (by omega) k2)
    exact ⟨o3, m3, g1, g2, g3, fun k hk => by rw [g4 k hk, f4 k (by omega)], fun k hk => by rw [g5 k hk, f5 k (by omega)]⟩
/-- the least seat, seen from the last piece back -/
def lS (mm : Nat → Int32) (g a t : Nat) : Nat → Int32
  | 0 => -6
  | n + 1 => if (hb (nI a) (5 - n) = true ∧ hb (nI t) (5 - n) = false) ∧ 1 + mm (64 * g + 64 + (t ||| 2 ^ (5 - n))) = mm (64 * g + t) then nI (5 - n) else lS mm g a t n
theorem lS_rng (mm : Nat → Int32) (g a t : Nat) : ∀ n, lS mm g a t n = -6 ∨ ∃ p, p < 6 ∧ lS mm g a t n = nI p := by
  intro n
  induction n with
  | zero => exact Or.inl rfl
  | succ n ih =>
    rw [lS]; split
    · exact Or.inr ⟨5 - n, by omega, rfl⟩
    · exact ih
theorem mseat_loop {ml mm : Nat → Int32} {g a t : Nat} {th : Int32} (hg : g < 6) (ht : t < 64) (hla : ml g &&& th = nI a) : ∀ (d n : Nat), n + d = 6 → ∀ (fuel : Nat), d < fuel → fX8_seats_39 ml (nI g) th (nI t) mm fuel (lS mm g a t n) (nI 5 - nI n) = some (lS mm g a t 6) := by
  intro d
  induction d with
  | zero =>
    intro n hn fuel hf
    obtain ⟨m, rfl⟩ : ∃ m, fuel = m + 1 := ⟨fuel - 1, by omega⟩
    obtain rfl : n = 6 := by omega
    rw [fX8_seats_39, if_pos (by decide)]
  | succ d ih =>
    intro n hn fuel hf
    obtain ⟨m, rfl⟩ : ∃ m, fuel = m + 1 := ⟨fuel - 1, by omega⟩
    have hp : 5 - n < 6 := by omega
    have en : nI 5 - nI n = nI (5 - n) := sub_nI (by omega)
    have en2 : nI (5 - n) + (-1) = nI 5 - nI (n + 1) := by
      rw [← en, nI_succ n]; simp only [Int32.sub_eq_add_neg, Int32.neg_add]; ac_rfl
    obtain ⟨eo, ho⟩ := bit_or t ht (5 - n) hp
    rw [fX8_seats_39, en, if_neg (nI_pos (by omega)), ldI_at (j := g) rfl hg (by decide), hla, has_s, has_s, eo, ldI_at (im64 g _) (by omega) (by decide), ldI_at (in64 g t) (by omega) (by decide)]
    have nx := ih (n + 1) (by omega) m (by omega)
    rw [lS] at nx
    cases h1 : hb (nI a) (5 - n)
    · rw [if_neg (by rw [h1]; simp)] at nx
      simp only [bd1_s, nme_s, if0, if1, if_true, if_false, Bool.false_eq_true, nI_1, en2]; exact nx
    · cases h2 : hb (nI t) (5 - n)
      · by_cases c : 1 + mm (64 * g + 64 + (t ||| 2 ^ (5 - n))) = mm (64 * g + t)
        · rw [if_pos ⟨⟨h1, h2⟩, c⟩] at nx
          simp only [if_pos c, bd1_s, nme_s, if0, if1, if_true, if_false, Bool.false_eq_true, nI_1, en2]; exact nx
        · rw [if_neg (fun h => c h.2)] at nx
          simp only [if_neg c, bd1_s, nme_s, if0, if1, if_true, if_false, Bool.false_eq_true, nI_1, en2]; exact nx
      · rw [if_neg (by rw [h2]; simp)] at nx
        simp only [bd1_s, nme_s, if0, if1, if_true, if_false, Bool.false_eq_true, nI_1, en2]; exact nx
theorem cseat_loop {mo mm : Nat → Int32} {g a t : Nat} (hg : g < 6) (ha : a < 64) (ht : t < 64) (he : ∀ k, k < 448 → mo k = mm k) : ∀ (d i : Nat), i + d = 6 → ∀ (fuel : Nat), d < fuel → br0 (fX4_leastSeat_11 (nI a) (nI t) mo (nI (g + 1) * 64) (nI g) fuel (nI i)) (some (-6)) = some (lS mm g a t d) := by
  intro d
  induction d with
  | zero =>
    intro i hi fuel hf
    obtain ⟨m, rfl⟩ : ∃ m, fuel = m + 1 := ⟨fuel - 1, by omega⟩
    rw [fX4_leastSeat_11, if_pos (six_le (by omega)), br0_r]; rfl
  | succ d ih =>
    intro i hi fuel hf
    obtain ⟨m, rfl⟩ : ∃ m, fuel = m + 1 := ⟨fuel - 1, by omega⟩
    have hi6 : i < 6 := by omega
    obtain ⟨eo, ho⟩ := bit_or t ht i hi6
    have hc := bit_lk a ha t ht i hi6
    have nx := ih (i + 1) (by omega) m (by omega)
    rw [fX4_leastSeat_11, if_neg (six_nle hi6), eo, ldI_at (ig64 g _) (by omega) (by decide), ldI_at (ih64 g t) (by omega) (by decide), he _ (by omega), he _ (by omega), lS, show 5 - d = i by omega]
    cases h1 : hb (nI a) i
    · rw [h1, Bool.false_and] at hc
      rw [bit01_0 hc, if_neg (by decide), if_neg (by simp), nme_s, nI_1]; exact nx
    · cases h2 : hb (nI t) i
      · rw [h1, h2] at hc
        rw [bit01_1 hc, if_pos rfl]
        by_cases c : 1 + mm (64 * g + 64 + (t ||| 2 ^ i)) = mm (64 * g + t)
        · rw [if_pos c, if_pos ⟨⟨rfl, rfl⟩, c⟩, br0_l]
        · rw [if_neg c, if_neg (fun h => c h.2), nme_s, nI_1]; exact nx
      · rw [h1, h2] at hc
        rw [bit01_0 hc, if_neg (by decide), if_neg (by simp), nme_s, nI_1]; exact nx
theorem seat_loop {li ml mo mm : Nat → Int32} {th : Int32} (hl : ∀ k, k < 6 → ml k = li k) (hv : ∀ k, k < 6 → 0 ≤ (li k).toInt ∧ (li k).toInt < 64) (ht0 : 0 ≤ th.toInt) (ht1 : th.toInt < 64) (he : ∀ k, k < 448 → mo k = mm k) {q : Nat} (hq : q < 6) : ∀ (d i : Nat), i + d = q + 1 → ∀ (fuel : Nat) (t : Nat) (f1 f2 : Int32), d < fuel → t < 64 → (d = 0 → f1 = f2) → ∃ r, fX4_seatOf_9 FU (nI q) li mo th fuel (nI t) f1 (nI i) = some r ∧ fX8_seats_27 FU (nI q) ml th mm fuel (nI t) f2 (nI i) = some r := by
  intro d
  induction d with
  | zero =>
    intro i hi fuel t f1 f2 hf ht hff
    obtain ⟨m, rfl⟩ : ∃ m, fuel = m + 1 := ⟨fuel - 1, by omega⟩
    rw [fX4_seatOf_9, fX8_seats_27, if_pos (nI_lt (by omega) (by omega)), if_pos (nI_lt (by omega) (by omega)), hff rfl]
    exact ⟨_, rfl, rfl⟩
  | succ d ih =>
    intro i hi fuel t f1 f2 hf ht hff
    obtain ⟨m, rfl⟩ : ∃ m, fuel = m + 1 := ⟨fuel - 1, by omega⟩
    have hi6 : i < 6 := by omega
    obtain ⟨a, ha, ea⟩ := nI_of_toInt (n := 64) (hv _ hi6).1 (hv _ hi6).2
    obtain ⟨b, hb', eb⟩ := nI_of_toInt (n := 64) ht0 ht1
    obtain ⟨e1, e2⟩ := bit_and a ha b hb'
    have hla : li i &&& th = nI (a &&& b) := by rw [ea, eb, e1]
    have c1 := cseat_loop (mo := mo) hi6 e2 ht he 6 0 rfl FU (by decide)
    have c2 := mseat_loop (mm := mm) (th := th) hi6 ht (show ml i &&& th = nI (a &&& b) by rw [hl i hi6]; exact hla) 6 0 rfl FU (by decide)
    rw [fX4_seatOf_9, fX8_seats_27, if_neg (nI_nlt (by omega) (by omega)), if_neg (nI_nlt (by omega) (by omega)), ldI_at (j := i) rfl hi6 (by decide), hla]
    unfold fX4_leastSeat
    rw [nI_1 i, nme_s, show br0 (fX4_leastSeat_11 (nI (a &&& b)) (nI t) mo (nI (i + 1) * 64) (nI i) FU 0) (some (-6)) = _ from c1, show fX8_seats_39 ml (nI i) th (nI t) mm FU (-6) 5 = _ from c2, bd1_s, bd1_s]
    rcases lS_rng mm i (a &&& b) t 6 with h | ⟨p, hp, h⟩
    · rw [h]
      simp only [if_true, if_neg (show ¬ (0 : Int32) ≤ -6 by decide), bd1_s, nme_s, if0, if1, if_true, if_false, Bool.false_eq_true, nI_1, Int32.or_zero]
      exact ih (i + 1) (by omega) m t _ _ (by omega) ht (fun _ => rfl)
    · rw [h]
      have hn6 : ¬ nI p = -6 := ne6 (by rw [nI_toInt (by omega)]; omega)
      obtain ⟨eo, ho⟩ := bit_or t ht p hp
      simp only [if_neg hn6, if_pos (nI_pos' (n := p) (by omega)), bd1_s, nme_s, if0, if1, if_true, if_false, Bool.false_eq_true, nI_1, eo]
      exact ih (i + 1) (by omega) m _ _ _ (by omega) ho (fun _ => rfl)
theorem ps_seats : PS_seats := by
  intro th sa hr il ro ef bf li cn be ho af le sg mo mt bk ds ba ml ms si sn pa mm hH hP hM a1
  obtain ⟨⟨v1, v2, v3, v4, v5, v6, v7, v8, v9, v10, v11⟩, h1, h2, h3, h4, h5, h6, h7, h8, h9, h10⟩ := hH
  subst h1
  unfold fX7_seats fX8_seats
  rw [betw_in]
  rcases in_cases a1 (-1) 5 with ⟨g, -⟩ | ⟨g, b1, b2⟩
  · rw [g]; simp only [bd1_s, nme_s, if0, if1, if_true, if_false, Bool.false_eq_true, nI_1]; exact ⟨_, _, _, rfl, rfl, hM⟩
  obtain ⟨o2, m2, f1, f2, f3, f4, f5⟩ := lay_loop h8 v9 v1.1 v1.2 6 0 rfl FU mo mm (by decide) (fun k k1 k2 => by rw [hM.1 k (by omega) k2, hM.2 k (by omega) k2])
  unfold fX4_weigh fX8_laySeats
  rw [g, show fX4_weigh_2 FU li mt FU 5 mo = _ from f1, show fX8_laySeats_2 FU ml mt FU 5 mm = _ from f2]
  simp only [bd1_s, nme_s, if0, if1, if_true, if_false, Bool.false_eq_true, nI_1]
  have hM2 : RelM o2 m2 := ⟨fun k k1 k2 => by rw [f4 k k1]; exact hM.1 k k1 k2, fun k k1 k2 => by rw [f5 k k1]; exact hM.2 k k1 k2⟩
  rw [ldI_at (i := 0) (j := 0) rfl (by decide) (by decide)]
  have zm : (-1 : Int32).toInt = -1 := by decide
  have z5 : (5 : Int32).toInt = 5 := by decide
  by_cases c : a1 = -1
  · subst c
    unfold fX4_mostSeated
    rw [if_pos rfl, ldI_at (i := 0) (j := 0) rfl (by decide) (by decide)]
    show ∃ r o1 o3, _ ∧ (bd1 (fX8_seats_27 FU (-1) ml mt m2 (8191 + 1) 0 (m2 0) 0) fun u => some (u, m2)) = _ ∧ _
    rw [fX8_seats_27, if_pos (by decide), bd1_s, bd1_s, f3 0 (by decide)]
    exact ⟨_, _, _, rfl, rfl, hM2⟩
  · rw [if_neg c]
    have hne : a1.toInt ≠ -1 := fun e => c (Int32.toInt_inj.mp e)
    obtain ⟨q, hq, rfl⟩ := nI_of_toInt (n := 6) (x := a1) (by omega) (by omega)
    obtain ⟨r, g1, g2⟩ := seat_loop h8 v9 v1.1 v1.2 f3 hq (q + 1) 0 (by omega) FU 0 (-6) (m2 0) (by have : FU = 8192 := rfl; omega) (by decide) (fun h => by omega)
    unfold fX4_seatOf
    rw [show fX4_seatOf_9 FU (nI q) li o2 mt FU 0 (-6) 0 = _ from g1, show fX8_seats_27 FU (nI q) ml mt m2 FU 0 (m2 0) 0 = _ from g2]
    simp only [bd1_s, nme_s, if0, if1, if_true, if_false, Bool.false_eq_true, nI_1]
    exact ⟨_, _, _, rfl, rfl, hM2⟩
