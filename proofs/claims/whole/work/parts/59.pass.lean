/-! acts: an hour passes, one is sat in, one is walked -/
/-- who is worse, as it is kept -/
def wA (wa w hh : Int32) : Int32 := if wa = -6 then (if w = -6 then wa else hh) else wa
def wW (wa ww w : Int32) : Int32 := if wa = -6 then (if w = -6 then ww else w) else ww
theorem ahead_loop {nw : Nat → Int32} : ∀ (d i : Nat), i + d = 6 → ∀ (fuel : Nat) (g : Nat → Int32), d < fuel → (∀ p, p < i → g p = sI nw p) → ∃ g2, fX8_pass_16 nw fuel (nI i) g = some g2 ∧ ∀ p, p < 6 → g2 p = sI nw p := by
  intro d
  induction d with
  | zero =>
    intro i hi fuel g hf hg
    obtain ⟨m, rfl⟩ : ∃ m, fuel = m + 1 := ⟨fuel - 1, by omega⟩
    rw [fX8_pass_16, if_pos (six_le (by omega))]
    exact ⟨g, rfl, fun p hp => hg p (by omega)⟩
  | succ d ih =>
    intro i hi fuel g hf hg
    obtain ⟨m, rfl⟩ : ∃ m, fuel = m + 1 := ⟨fuel - 1, by omega⟩
    have hi6 : i < 6 := by omega
    rw [fX8_pass_16, if_neg (six_nle hi6), millsOf_s nw hi6, bd1_s, stI_at (j := i) rfl hi6 (by decide), nme_s, nI_1]
    refine ih (i + 1) (by omega) m _ (by omega) (fun p hp => ?_)
    simp only [upd]
    by_cases e : p = i
    · rw [if_pos e, e]
    · rw [if_neg e, hg p (by omega)]
theorem m6_lt : (-6 : Int32) < 0 := by decide
theorem p45_loop {th : Int32} {il nh o ah : Nat → Int32} (ho : ∀ p, p < 6 → sI o p = sI nh p) (ha : ∀ p, p < 6 → ah p = sI il p) {hh ww : Int32} (h0 : 0 ≤ hh.toInt) : ∀ (d n : Nat), n + d = 6 → ∀ (fuel : Nat), d < fuel → fX8_pass_45 th o ah hh fuel (nI 5 - nI n) (wA (-6) (wz th il nh n) hh) (wW (-6) ww (wz th il nh n)) = some (wA (-6) (wz th il nh 6) hh, wW (-6) ww (wz th il nh 6)) := by
  intro d
  have hnl : ¬ hh < 0 := fun h => by have := Int32.lt_iff_toInt_lt.mp h; have z : (0 : Int32).toInt = 0 := rfl; omega
  induction d with
  | zero =>
    intro n hn fuel hf
    obtain ⟨m, rfl⟩ : ∃ m, fuel = m + 1 := ⟨fuel - 1, by omega⟩
    obtain rfl : n = 6 := by omega
    rw [fX8_pass_45, if_pos (by decide)]
  | succ d ih =>
    intro n hn fuel hf
    obtain ⟨m, rfl⟩ : ∃ m, fuel = m + 1 := ⟨fuel - 1, by omega⟩
    have hp : 5 - n < 6 := by omega
    have en : nI 5 - nI n = nI (5 - n) := sub_nI (by omega)
    have en2 : nI (5 - n) + (-1) = nI 5 - nI (n + 1) := by
      rw [← en, nI_succ n]; simp only [Int32.sub_eq_add_neg, Int32.neg_add]; ac_rfl
    have hbody : ∀ (K : Int32 → Int32 → Option (Int32 × Int32)), bd1 (fX8_has th (nI (5 - n))) (fun r136 => bd2 (if r136 = (0 : Int32) then some (wA (-6) (wz th il nh n) hh, wW (-6) ww (wz th il nh n)) else bd1 (fX8_illsOf o (nI (5 - n))) fun r157 => ldI ah 6 (nI (5 - n)) fun x159 => bd2 (if r157 ≤ x159 then some (wA (-6) (wz th il nh n) hh, wW (-6) ww (wz th il nh n)) else some (hh, nI (5 - n))) fun j161 j162 => some (j161, j162)) K) = K (wA (-6) (wz th il nh (n + 1)) hh) (wW (-6) ww (wz th il nh (n + 1))) := by
      intro K
      rw [has_s, bd1_s, wz, millsOf_s o hp, bd1_s, ldI_at (j := 5 - n) rfl hp (by decide), ho _ hp, ha _ hp]
      have hne : ¬ nI (5 - n) = -6 := fun e => by
        have := congrArg Int32.toInt e; rw [nI_toInt (by omega)] at this
        have z : (-6 : Int32).toInt = -6 := rfl; omega
      cases hth : hb th (5 - n)
      · rw [if_neg (show ¬ (false = true ∧ ¬ sI nh (5 - n) ≤ sI il (5 - n)) by simp)]
        simp only [bd1_s, nme_s, if0, if1, if_true, if_false, Bool.false_eq_true, nI_1, bd2_s]
      · by_cases c : sI nh (5 - n) ≤ sI il (5 - n)
        · rw [if_neg (show ¬ (true = true ∧ ¬ sI nh (5 - n) ≤ sI il (5 - n)) from fun h => h.2 c)]
          simp only [if_pos c, bd1_s, nme_s, if0, if1, if_true, if_false, Bool.false_eq_true, nI_1, bd2_s]
        · rw [if_pos (show (true = true ∧ ¬ sI nh (5 - n) ≤ sI il (5 - n)) from ⟨rfl, c⟩)]
          simp only [if_neg c, bd1_s, nme_s, if0, if1, if_true, if_false, Bool.false_eq_true, nI_1, bd2_s]
          unfold wA wW
          simp only [if_pos, if_neg hne]
    rw [fX8_pass_45, en, if_neg (nI_pos (by omega))]
    have hc : wA (-6) (wz th il nh n) hh < 0 ∨ (¬ wA (-6) (wz th il nh n) hh < 0 ∧ wA (-6) (wz th il nh n) hh = hh) := by
      unfold wA; rw [if_pos rfl]
      by_cases e : wz th il nh n = -6
      · rw [if_pos e]; exact Or.inl m6_lt
      · rw [if_neg e]; exact Or.inr ⟨hnl, rfl⟩
    have nx := ih (n + 1) (by omega) m (by omega)
    rcases hc with hc | ⟨hc, hc2⟩
    · rw [if_pos hc, hbody]
      simp only [nme_s, en2]
      exact nx
    · rw [if_neg hc, if_pos hc2, hbody]
      simp only [nme_s, en2]
      exact nx
theorem p45_out {th : Int32} {o ah : Nat → Int32} {wa ww hh : Int32} (h0 : 0 ≤ wa.toInt) (hne : ¬ wa = hh) : fX8_pass_45 th o ah hh FU 5 wa ww = some (wa, ww) := by
  have hnl : ¬ wa < 0 := fun h => by have := Int32.lt_iff_toInt_lt.mp h; have z : (0 : Int32).toInt = 0 := rfl; omega
  show fX8_pass_45 th o ah hh (8191 + 1) 5 wa ww = _
  rw [fX8_pass_45, if_neg (by decide), if_neg hnl, if_neg hne]
/-- the kept worst hour lies behind -/
def wOK (wa hh : Int32) : Prop := wa = -6 ∨ (0 ≤ wa.toInt ∧ wa.toInt < hh.toInt)
theorem RelH.hour {th sa hr : Int32} {il ro ef bf li : Nat → Int32} {cn : Int32} {be ho af : Nat → Int32} {mt : Int32} {nw ds ba ml : Nat → Int32} {ms : Int32} {si : Nat → Int32} (H : RelH th sa hr il ro ef bf li cn be ho af mt nw ds ba ml ms si) (hlt : hr.toInt < 99) {g2 g3 : Nat → Int32} (e1 : ∀ k, k < 18 → g2 k = hI th sa il ro ef bf k) (f1 : ∀ k, k < 18 → g3 k = hI th sa il ro ef bf k) (f2 : ∀ q, q < 6 → g3 (18 + q) = ro q) (f3 : g3 24 = 0) (f4 : g3 25 = hr + 1) : RelH th 0 (hr + 1) g2 ro ef bf li cn be ho af mt g3 ds ba ml ms si := by
  obtain ⟨⟨v1, v2, v3, v4, v5, v6, v7, v8, v9, v10, v11⟩, h1, h2, h3, h4, h5, h6, h7, h8, h9, h10⟩ := H
  refine ⟨⟨v1, by decide, ?_, ?_, v5, v6, v7, v8, v9, v10, v11⟩, h1, fun k hk => by rw [f1 k hk, e1 k hk], f2, f3, f4, h6, h7, h8, h9, h10⟩
  · have := rng_sum (a := hr) (b := 1) (m := 99) (n := 1) v3.1 v3.2 (by decide) (by decide) (by decide)
    have z : (1 : Int32).toInt = 1 := rfl
    rw [this]; omega
  · intro k hk
    rw [e1 k hk]; unfold hI
    split
    · unfold nv
      repeat' split
      all_goals exact cl_rng _
    · exact v4 k hk
