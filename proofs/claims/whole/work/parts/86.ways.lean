theorem wf_s {ap tw : Nat → Int32} {th : Int32} {A T : Nat → Nat → Bool} {R : Nat} (hR : R ≤ 4) (ha : ∀ k, k < 6 → ∀ q, q < 32 → bt (ap k) q = (decide (q < k) && A q k && hb th q)) (ht : ∀ k, k < 6 → ∀ q, q < 32 → bt (tw k) q = (decide (q < k) && T q k && hb th q)) : ∀ (n k : Nat), k + n = 6 → ∀ (dp u : Nat) (ρ : Nat → Nat) (v4 : Int32), n < dp → u ≤ R → (∀ x, x < k → hb th x = true → ρ x < u) → (∀ r, r < 4 → ∀ q, q < 6 → bt v4 (6 * r + q) = (decide (q < k) && hb th q && decide (ρ q = r))) → fX3_waysFrom FU dp ap tw th (nI R) (nI k) v4 (nI u) = some (nI (kW (hb th) A T R n k ρ)) := by
  intro n
  induction n with
  | zero =>
    intro k hk dp u ρ v4 hd hu hρ hv
    obtain ⟨m, rfl⟩ : ∃ m, dp = m + 1 := ⟨dp - 1, by omega⟩
    obtain rfl : k = 6 := by omega
    rw [fX3_waysFrom, if_neg (show ¬ nI 6 < 6 by decide), kW]; rfl
  | succ n ih =>
    intro k hk dp u ρ v4 hd hu hρ hv
    obtain ⟨m, rfl⟩ : ∃ m, dp = m + 1 := ⟨dp - 1, by omega⟩
    have hk6 : k < 6 := by omega
    rw [fX3_waysFrom, if_pos (show nI k < 6 from nI_lt (b := 6) hk6 (by decide)), kW]
    cases e : hb th k
    · have nx := ih (k + 1) (by omega) m u (stR ρ k 0) v4 (by omega) hu (fun x hx hh => by
        have hne : x ≠ k := fun q => by rw [q, e] at hh; cases hh
        unfold stR
        rw [if_neg hne]; exact hρ x (by omega) hh) (fun r hr q hq => by
        rw [hv r hr q hq]
        unfold stR
        by_cases c : q = k
        · subst c; rw [e, Bool.and_false, Bool.and_false, Bool.false_and, Bool.false_and]
        · rw [if_neg c]
          by_cases d : q < k
          · rw [decide_eq_true d, decide_eq_true (show q < k + 1 by omega)]
          · rw [decide_eq_false d, decide_eq_false (show ¬ q < k + 1 by omega)])
      rw [if_pos (bit01_0 e), if_neg (by decide), nI_1, nx, bd1_s]
    · rw [if_neg (show ¬ ((th >>> (nI k &&& 31)) &&& (1 : Int32)) = 0 by rw [bit01_1 e]; decide), if_pos rfl]
      have nx : ∀ r u', r < 4 → u' ≤ R → u ≤ u' → r < u' → fX3_waysFrom FU m ap tw th (nI R) (nI (k + 1)) (v4 ||| ((1 : Int32) <<< (((nI r * 6) + nI k) &&& 31))) (nI u') = some (nI (kW (hb th) A T R n (k + 1) (stR ρ k r))) := by
        intro r u' hr4 hu' huu hr
        refine ih (k + 1) (by omega) m u' (stR ρ k r) _ (by omega) hu' (fun x hx hh => ?_) (join_st hk6 hr4 e hv)
        unfold stR
        by_cases c : x = k
        · rw [if_pos c]; exact hr
        · rw [if_neg c]; have := hρ x (by omega) hh; omega
      have sb : ∀ r, r < 4 → ∀ q, q < 32 → bt ((v4 >>> ((nI r * 6) &&& 31)) &&& 63) q = (decide (q < k) && hb th q && decide (ρ q = r)) := by
        intro r hr q hq
        rw [setIn_bt v4 hr hq]
        by_cases c : q < 6
        · rw [decide_eq_true c, Bool.true_and, hv r hr q c]
        · rw [decide_eq_false c, decide_eq_false (show ¬ q < k by omega)]; rfl
      have sw := w36_loop (ap := ap) (tw := tw) (th := th) (v4 := v4) (R := R) (u := u) (k := k) (by omega) (F := fun r => if suitF (hb th) A T ρ k r k = true then kW (hb th) A T R n (k + 1) (stR ρ k r) else 0) (rec_ := fX3_waysFrom FU m) (fun r hr => ⟨suitF (hb th) A T ρ k r k, suits_s hk6 (ha k hk6) (ht k hk6) (sb r (by omega)), fun h => by
        rw [nI_1, nx r u (by omega) hu (Nat.le_refl u) hr]
        simp only [h, if_true], fun h => by simp only [h, Bool.false_eq_true, if_false]⟩) u 0 (by omega) FU (by have : FU = 8192 := rfl; omega)
      rw [show fX3_waysFrom_36 (nI u) v4 ap tw (nI k) (fX3_waysFrom FU m) th (nI R) FU 0 0 = _ from sw, bd1_s]
      by_cases c : R ≤ u
      · obtain rfl : u = R := by omega
        rw [if_pos (nI_le (Nat.le_refl _) (by omega)), bd1_s]
      · have z : ∀ q, q < 32 → bt 0 q = (decide (q < k) && hb th q && decide (ρ q = u)) := by
          intro q hq
          rw [b_0]
          by_cases d : q < k
          · cases hh : hb th q
            · rw [Bool.and_false, Bool.false_and]
            · have := hρ q d hh
              rw [decide_eq_false (show ¬ ρ q = u by omega), Bool.and_false]
          · rw [decide_eq_false d, Bool.false_and, Bool.false_and]
        have hsx : ∀ r, u ≤ r → ∀ x, x < k → hb th x = true → ρ x = swp u r (ρ x) := by
          intro r hr x hx hh
          have := hρ x hx hh
          unfold swp
          rw [if_neg (by omega), if_neg (by omega)]
        have swu : ∀ r, swp u r u = r := fun r => by unfold swp; rw [if_pos rfl]
        have tl := sN_tail (F := fun r => if suitF (hb th) A T ρ k r k = true then kW (hb th) A T R n (k + 1) (stR ρ k r) else 0) (c := if suitF (hb th) A T ρ k u k = true then kW (hb th) A T R n (k + 1) (stR ρ k u) else 0) R (show u ≤ R by omega) (fun r h1 h2 => by
          have s1 := suitF_swp (A := A) (T := T) (r := u) (k := k) k (hsx r h1)
          have s2 := kW_swp (A := A) (T := T) hR (show u < R by omega) h2 n (k + 1) (stR ρ k u) (stR ρ k r) (fun x hx hh => by
            unfold stR
            by_cases d : x = k
            · rw [if_pos d, if_pos d, swu]
            · rw [if_neg d, if_neg d]; exact hsx r h1 x (by omega) hh)
          rw [swu] at s1
          simp only [s1, s2])
        rw [tl, if_neg (nI_ge (by omega) (by omega)), suits_s hk6 (ha k hk6) (ht k hk6) z, bd1_s]
        cases hs : suitF (hb th) A T ρ k u k
        · simp only [bd1_s, nme_s, if0, if1, if_true, if_false, Bool.false_eq_true, nI_1, Nat.mul_zero, Nat.add_zero]
        · simp only [if_true, if1]
          rw [join_s, bd1_s, nI_1, nI_1, nx u (u + 1) (by omega) (by omega) (by omega) (by omega), bd1_s, nme_s, sub_nI (by omega), nI_mul, nI_add, bd1_s, bd1_s]
theorem countWays_s (th v1 v2 : Int32) {R : Nat} (hR : R ≤ 4) (h0 : 0 < R) (ap tw : Nat → Int32) : ∃ a t, fX3_countWays FU ap tw th v1 v2 (nI R) = some (nI (sN (gC th v1 v2 (nI R)) 4096), a, t) := by
  obtain ⟨a, t, f1, f2, f3⟩ := cw_loop (th := th) (v1 := v1) (v2 := v2) 6 0 rfl FU ap tw (by decide) (fun k hk => by omega) (fun k hk => by omega)
  have w := wf_s (A := fun p q => hb v1 (prN p q)) (T := fun p q => hb v2 (prN p q)) hR f2 f3 6 0 rfl 8 0 (dgR 0) 0 (by decide) (by omega) (fun x hx => by omega) (fun r hr q hq => by rw [b_0, decide_eq_false (by omega), Bool.false_and, Bool.false_and])
  unfold fX3_countWays
  rw [show fX3_countWays_3 FU v1 th v2 FU 0 ap tw = _ from f1, bd2_s, show fX3_waysFrom FU 8 a t th (nI R) 0 0 0 = _ from w, bd1_s, ways_kW th v1 v2 hR h0]
  exact ⟨a, t, rfl⟩
theorem pairs_in (v : Int32) : fX8_isPairs v = fX8_in v 0 32767 := by
  unfold fX8_isPairs
  rcases in_cases v 0 32767 with ⟨g, -⟩ | ⟨g, -, -⟩
  · rw [g, bd1_s]; rfl
  · rw [g, bd1_s]; rfl
theorem ps_ways : PS_ways := by
  intro th sa hr il ro ef bf li cn be ho af le sg mo mt bk ds ba ml ms si sn pa mm ap tw hH hP hM a1 a2 a3
  obtain ⟨⟨v1, v2, v3, v4, v5, v6, v7, v8, v9, v10, v11⟩, h1, h2, h3, h4, h5, h6, h7, h8, h9, h10⟩ := hH
  subst h1
  unfold fX7_ways fX8_ways
  rw [among_in (m := 32767) (by decide), among_in (m := 32767) (by decide), pairs_in, pairs_in, betw_in]
  rcases in_cases a1 0 32767 with ⟨g1, -⟩ | ⟨g1, -, -⟩
  · rw [g1]; simp only [bd1_s, nme_s, if0, if1, if_true, if_false, Bool.false_eq_true, nI_1]; exact ⟨_, _, _, rfl, rfl⟩
  rcases in_cases a2 0 32767 with ⟨g2, -⟩ | ⟨g2, -, -⟩
  · rw [g1, g2]; simp only [bd1_s, nme_s, if0, if1, if_true, if_false, Bool.false_eq_true, nI_1]; exact ⟨_, _, _, rfl, rfl⟩
  rcases in_cases a3 1 4 with ⟨g3, -⟩ | ⟨g3, b1, b2⟩
  · rw [g1, g2, g3]; simp only [bd1_s, nme_s, if0, if1, if_true, if_false, Bool.false_eq_true, nI_1]; exact ⟨_, _, _, rfl, rfl⟩
  have z1 : (1 : Int32).toInt = 1 := by decide
  have z4 : (4 : Int32).toInt = 4 := by decide
  obtain ⟨R, hR, rfl⟩ := nI_of_toInt (n := 5) (x := a3) (by omega) (by omega)
  rw [nI_toInt (by omega)] at b1
  obtain ⟨a, t, f1⟩ := countWays_s mt a1 a2 (show R ≤ 4 by omega) (by omega) ap tw
  rw [g1, g2, g3]
  simp only [bd1_s, nme_s, if0, if1, if_true, if_false, Bool.false_eq_true, nI_1]
  rw [f1, bd3_s, waysIn_s, bd1_s]
  exact ⟨_, _, _, rfl, rfl⟩
theorem rooms_loop {th v1 v2 : Int32} : ∀ (d i : Nat), i + d = 5 → 0 < i → ∀ (fc fm : Nat) (ap tw : Nat → Int32), d < fc → d < fm → ∃ a t, (∃ r, fX7_rooms_23 FU th v1 v2 fc (nI i) ap tw = some (Sum.inl (r, a, t)) ∧ fX8_rooms_19 FU th v1 v2 fm (nI i) = some (Sum.inl r)) ∨ (fX7_rooms_23 FU th v1 v2 fc (nI i) ap tw = some (Sum.inr (a, t)) ∧ fX8_rooms_19 FU th v1 v2 fm (nI i) = some (Sum.inr ())) := by
  intro d
  induction d with
  | zero =>
    intro i hi h0 fc fm ap tw hfc hfm
    obtain ⟨fc, rfl⟩ : ∃ m, fc = m + 1 := ⟨fc - 1, by omega⟩
    obtain ⟨fm, rfl⟩ : ∃ m, fm = m + 1 := ⟨fm - 1, by omega⟩
    obtain rfl : i = 5 := by omega
    rw [fX7_rooms_23, fX8_rooms_19, if_pos (by decide), if_pos (by decide)]
    exact ⟨ap, tw, Or.inr ⟨rfl, rfl⟩⟩
  | succ d ih =>
    intro i hi h0 fc fm ap tw hfc hfm
    obtain ⟨fc, rfl⟩ : ∃ m, fc = m + 1 := ⟨fc - 1, by omega⟩
    obtain ⟨fm, rfl⟩ : ∃ m, fm = m + 1 := ⟨fm - 1, by omega⟩
    obtain ⟨a, t, f1⟩ := countWays_s th v1 v2 (show i ≤ 4 by omega) h0 ap tw
    rw [fX7_rooms_23, fX8_rooms_19, if_neg (show ¬ (4 : Int32) < nI i from nI_nlt (a := 4) (by omega) (by decide)), if_neg (show ¬ (5 : Int32) ≤ nI i from nI_ge (b := 5) (by omega) (by decide)), f1, bd3_s, waysIn_s, bd1_s]
    by_cases c : nI (sN (gC th v1 v2 (nI i)) 4096) ≤ 0
    · simp only [if_pos c, nme_s, nI_1]
      exact ih (i + 1) (by omega) (by omega) fc fm a t (by omega) (by omega)
    · simp only [if_neg c]
      exact ⟨a, t, Or.inl ⟨_, rfl, rfl⟩⟩
theorem ps_rooms : PS_rooms := by
  intro th sa hr il ro ef bf li cn be ho af le sg mo mt bk ds ba ml ms si sn pa mm ap tw hH hP hM a1 a2
  obtain ⟨⟨v1, v2, v3, v4, v5, v6, v7, v8, v9, v10, v11⟩, h1, h2, h3, h4, h5, h6, h7, h8, h9, h10⟩ := hH
  subst h1
  unfold fX7_rooms fX8_rooms
  rw [among_in (m := 32767) (by decide), among_in (m := 32767) (by decide), pairs_in, pairs_in]
  rcases in_cases a1 0 32767 with ⟨g1, -⟩ | ⟨g1, -, -⟩
  · rw [g1]; simp only [bd1_s, nme_s, if0, if1, if_true, if_false, Bool.false_eq_true, nI_1]; exact ⟨_, _, _, rfl, rfl⟩
  rcases in_cases a2 0 32767 with ⟨g2, -⟩ | ⟨g2, -, -⟩
  · rw [g1, g2]; simp only [bd1_s, nme_s, if0, if1, if_true, if_false, Bool.false_eq_true, nI_1]; exact ⟨_, _, _, rfl, rfl⟩
  rw [g1, g2]
  simp only [bd1_s, nme_s, if0, if1, if_true, if_false, Bool.false_eq_true, nI_1]
  obtain ⟨a, t, ⟨r, e1, e2⟩ | ⟨e1, e2⟩⟩ := rooms_loop (th := mt) (v1 := a1) (v2 := a2) 4 1 rfl (by decide) FU FU ap tw (by decide) (by decide)
  · rw [show fX7_rooms_23 FU mt a1 a2 FU 1 ap tw = _ from e1, show fX8_rooms_19 FU mt a1 a2 FU 1 = _ from e2, br2_l, br0_l]
    exact ⟨_, _, _, rfl, rfl⟩
  · rw [show fX7_rooms_23 FU mt a1 a2 FU 1 ap tw = _ from e1, show fX8_rooms_19 FU mt a1 a2 FU 1 = _ from e2, br2_r, br0_r]
    exact ⟨_, _, _, rfl, rfl⟩
