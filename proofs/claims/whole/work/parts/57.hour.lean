theorem ix3m (j : Nat) : nI j * 3 = nI (3 * j) := by simp [nI, Int32.mul_comm]
/-- an ill of a piece that is there behind an hour -/
def nv (th sa : Int32) (il ro ef bf : Nat → Int32) (p i : Nat) : Int32 :=
  if i = 0 then (if hb sa p then cl (cl (il (3 * p) + ef (3 * (ro p).toInt.toNat)) - 2) else cl (il (3 * p) + ef (3 * (ro p).toInt.toNat)))
  else if i = 1 then cl (il (3 * p + 1) + (ef (3 * (ro p).toInt.toNat + 1) + mS (tB th ro bf p) 6)) else cl (il (3 * p + 2) + ef (3 * (ro p).toInt.toNat + 2))
theorem nv_congr {th sa : Int32} {il il2 ro ef bf : Nat → Int32} {p i : Nat} (h : ∀ j, j < 3 → il (3 * p + j) = il2 (3 * p + j)) : nv th sa il ro ef bf p i = nv th sa il2 ro ef bf p i := by
  have a := h 0 (by omega)
  have b := h 1 (by omega)
  have c := h 2 (by omega)
  simp only [Nat.add_zero] at a
  unfold nv; rw [a, b, c]
theorem change_s {ef bf t : Nat → Int32} {p i r : Nat} (hp : p < 6) (hi : i < 3) (hr : r < 4) (W : Int32) (ht : ∀ q, q < 6 → (if hb W q then bf (6 * q + p) else 0) = t q) : fX1_changeOf FU ef bf (nI p) (nI i) (nI r) W = some (if i = 1 then ef (3 * r + i) + mS t 6 else ef (3 * r + i)) := by
  unfold fX1_changeOf
  rw [ldI_at (ix3 r i) (by omega) (by decide)]
  by_cases e : i = 1
  · have hl := change_loop hp W (ef (3 * r + i)) ht 6 0 rfl FU (by decide)
    rw [show ef (3 * r + i) + mS t 0 = ef (3 * r + i) by simp [mS]] at hl
    rw [if_pos (show nI i = 1 by rw [e]; rfl), show fX1_changeOf_20 bf (nI p) W FU (ef (3 * r + i)) 0 = _ from hl, if_pos e]
    simp only [bd1_s, nme_s, if0, if1, if_true, if_false, Bool.false_eq_true, nI_1]
  · rw [if_neg (show ¬ nI i = 1 from fun h => e ((nI_eq (b := 1) (by omega) (by decide)).mp h)), if_neg e]
    simp only [bd1_s, nme_s, if0, if1, if_true, if_false, Bool.false_eq_true, nI_1]
theorem ph18 {il ro ef bf t : Nat → Int32} {p r : Nat} (hp : p < 6) (hr : r < 4) (hro : ro p = nI r) (W : Int32) (ht : ∀ q, q < 6 → (if hb W q then bf (6 * q + p) else 0) = t q) (m : Nat) : fX1_passHourOf_18 FU (nI (3 * p)) ro (nI p) ef bf W (m + 4) 0 il = some (upd (upd (upd il (3 * p) (cl (il (3 * p) + ef (3 * r)))) (3 * p + 1) (cl (il (3 * p + 1) + (ef (3 * r + 1) + mS t 6)))) (3 * p + 2) (cl (il (3 * p + 2) + ef (3 * r + 2)))) := by
  have c0 : fX1_changeOf FU ef bf (nI p) 0 (nI r) W = _ := change_s (i := 0) hp (by omega) hr W ht
  have c1 : fX1_changeOf FU ef bf (nI p) (0 + 1) (nI r) W = _ := change_s (i := 1) hp (by omega) hr W ht
  have c2 : fX1_changeOf FU ef bf (nI p) (0 + 1 + 1) (nI r) W = _ := change_s (i := 2) hp (by omega) hr W ht
  rw [fX1_passHourOf_18, if_neg (by decide), ldI_at (j := 3 * p) (by simp) (by omega) (by decide), ldI_at (j := p) rfl hp (by decide), hro, c0, bd1_s, within_s, bd1_s, stI_at (j := 3 * p) (by simp) (by omega) (by decide), nme_s]
  rw [fX1_passHourOf_18, if_neg (by decide), ldI_at (j := 3 * p + 1) (show nI (3 * p) + (0 + 1) = _ by rw [show (0 + 1 : Int32) = nI 1 from rfl, nI_add]) (by omega) (by decide), ldI_at (j := p) rfl hp (by decide), hro, c1, bd1_s, within_s, bd1_s, stI_at (j := 3 * p + 1) (show nI (3 * p) + (0 + 1) = _ by rw [show (0 + 1 : Int32) = nI 1 from rfl, nI_add]) (by omega) (by decide), nme_s]
  rw [fX1_passHourOf_18, if_neg (by decide), ldI_at (j := 3 * p + 2) (show nI (3 * p) + (0 + 1 + 1) = _ by rw [show (0 + 1 + 1 : Int32) = nI 2 from rfl, nI_add]) (by omega) (by decide), ldI_at (j := p) rfl hp (by decide), hro, c2, bd1_s, within_s, bd1_s, stI_at (j := 3 * p + 2) (show nI (3 * p) + (0 + 1 + 1) = _ by rw [show (0 + 1 + 1 : Int32) = nI 2 from rfl, nI_add]) (by omega) (by decide), nme_s]
  rw [fX1_passHourOf_18, if_pos (by decide)]
  simp [upd]
theorem passOf_s {th sa : Int32} {il ro ef bf : Nat → Int32} {p : Nat} (hp : p < 6) (hth : hb th p = true) (hro : 0 ≤ (ro p).toInt ∧ (ro p).toInt ≤ 3) (hd : bf (7 * p) = 0) : ∃ nh, fX1_passHourOf FU th sa il ro ef bf (nI p) = some nh ∧ ∀ k, k < 18 → nh k = if k / 3 = p then nv th sa il ro ef bf p (k % 3) else il k := by
  obtain ⟨r, hr, er⟩ := nI_of_toInt (n := 4) hro.1 (by omega)
  obtain ⟨W, hW, hW2⟩ := with_s th ro (ro p)
  have ht : ∀ q, q < 6 → (if hb W q then bf (6 * q + p) else 0) = tB th ro bf p q := by
    intro q hq
    rw [hW2 q hq]
    unfold tB
    by_cases e : q = p
    · subst e
      rw [if_neg (show ¬ ((hb th q && decide (ro q = ro q)) = true ∧ q ≠ q) from fun h => h.2 rfl), show 6 * q + q = 7 * q by omega, hd]
      simp
    · by_cases c : (hb th q && decide (ro q = ro p)) = true
      · rw [if_pos c, if_pos ⟨c, e⟩]
      · rw [if_neg c, if_neg (fun h => c h.1)]
  have hl := ph18 (il := il) (ef := ef) hp hr er W ht 8188
  unfold fX1_passHourOf
  rw [nme_s, ldI_at (j := p) rfl hp (by decide), hW, bd1_s, ix3m, show fX1_passHourOf_18 FU (nI (3 * p)) ro (nI p) ef bf W FU 0 il = _ from hl, bd1_s, sat_s]
  have er2 : (ro p).toInt.toNat = r := by rw [er, nI_toInt (by omega)]; omega
  cases hsp : hb sa p
  · simp only [bd1_s, nme_s, if0, if1, if_true, if_false, Bool.false_eq_true, nI_1]
    refine ⟨_, rfl, fun k hk => ?_⟩
    simp only [upd, nv, er2, hsp]
    by_cases e : k / 3 = p
    · rw [if_pos e]
      rcases (show k = 3 * p ∨ k = 3 * p + 1 ∨ k = 3 * p + 2 by omega) with h | h | h
      · rw [if_neg (by omega), if_neg (by omega), if_pos h, if_pos (by omega)]; simp
      · rw [if_neg (by omega), if_pos h, if_neg (by omega), if_pos (by omega)]
      · rw [if_pos h, if_neg (by omega), if_neg (by omega)]
    · rw [if_neg e, if_neg (by omega), if_neg (by omega), if_neg (by omega)]
  · simp only [bd1_s, nme_s, if0, if1, if_true, if_false, Bool.false_eq_true, nI_1]
    rw [ldI_at (j := 3 * p) (by simp) (by omega) (by decide), within_s, bd1_s, stI_at (j := 3 * p) (by simp) (by omega) (by decide)]
    refine ⟨_, rfl, fun k hk => ?_⟩
    simp only [upd, nv, er2, hsp]
    by_cases e : k / 3 = p
    · rw [if_pos e]
      rcases (show k = 3 * p ∨ k = 3 * p + 1 ∨ k = 3 * p + 2 by omega) with h | h | h
      · rw [if_pos h, if_pos (show k % 3 = 0 by omega)]; simp
      · rw [if_neg (by omega), if_neg (by omega), if_pos h, if_neg (by omega), if_pos (by omega)]
      · rw [if_neg (by omega), if_pos h, if_neg (by omega), if_neg (by omega)]
    · rw [if_neg e, if_neg (by omega), if_neg (by omega), if_neg (by omega), if_neg (by omega)]
/-- all ills behind an hour -/
def hI (th sa : Int32) (il ro ef bf : Nat → Int32) (k : Nat) : Int32 := if hb th (k / 3) then nv th sa il ro ef bf (k / 3) (k % 3) else il k
/-- who is made worse, seen from the last piece back: behind n of them -/
def wz (th : Int32) (il nh : Nat → Int32) : Nat → Int32
  | 0 => -6
  | n + 1 => if hb th (5 - n) = true ∧ ¬ sI nh (5 - n) ≤ sI il (5 - n) then nI (5 - n) else wz th il nh n
theorem wz_rng (th : Int32) (il nh : Nat → Int32) : ∀ n, wz th il nh n = -6 ∨ ∃ p, p < 6 ∧ wz th il nh n = nI p := by
  intro n
  induction n with
  | zero => exact Or.inl rfl
  | succ n ih =>
    rw [wz]; split
    · exact Or.inr ⟨5 - n, by omega, rfl⟩
    · exact ih
theorem sI_hI {th sa : Int32} {il ro ef bf f : Nat → Int32} {p : Nat} (h : ∀ k, k / 3 = p → f k = hI th sa il ro ef bf k) : sI f p = sI (hI th sa il ro ef bf) p := by
  unfold sI; rw [h _ (by omega), h _ (by omega), h _ (by omega)]
theorem pass_loop {th sa : Int32} {il ro ef bf : Nat → Int32} (hro : ∀ k, k < 6 → 0 ≤ (ro k).toInt ∧ (ro k).toInt ≤ 3) (hd : ∀ k, k < 6 → bf (7 * k) = 0) : ∀ (d n : Nat), n + d = 6 → ∀ (fuel : Nat) (g : Nat → Int32), d < fuel → (∀ k, k < 18 → g k = if 6 - n ≤ k / 3 then hI th sa il ro ef bf k else il k) → ∃ g2, fX1_passHour_5 FU th sa ro ef bf fuel (wz th il (hI th sa il ro ef bf) n) (nI 5 - nI n) g = some (wz th il (hI th sa il ro ef bf) 6, g2) ∧ ∀ k, k < 18 → g2 k = hI th sa il ro ef bf k := by
  intro d
  induction d with
  | zero =>
    intro n hn fuel g hf hg
    obtain ⟨m, rfl⟩ : ∃ m, fuel = m + 1 := ⟨fuel - 1, by omega⟩
    obtain rfl : n = 6 := by omega
    rw [fX1_passHour_5, if_pos (by decide)]
    exact ⟨g, rfl, fun k hk => by rw [hg k hk, if_pos (by omega)]⟩
  | succ d ih =>
    intro n hn fuel g hf hg
    obtain ⟨m, rfl⟩ : ∃ m, fuel = m + 1 := ⟨fuel - 1, by omega⟩
    have hp : 5 - n < 6 := by omega
    have en : nI 5 - nI n = nI (5 - n) := sub_nI (by omega)
    have en2 : nI (5 - n) + (-1) = nI 5 - nI (n + 1) := by
      rw [← en, nI_succ n]; simp only [Int32.sub_eq_add_neg, Int32.neg_add]; ac_rfl
    rw [fX1_passHour_5, en, if_neg (nI_pos (by omega)), there_s th hp]
    cases hth : hb th (5 - n)
    · simp only [bd1_s, nme_s, if0, if1, if_true, if_false, Bool.false_eq_true, nI_1, bd2_s, en2]
      have e1 : wz th il (hI th sa il ro ef bf) (n + 1) = wz th il (hI th sa il ro ef bf) n := by rw [wz, if_neg (by rw [hth]; simp)]
      rw [← e1]
      refine ih (n + 1) (by omega) m g (by omega) (fun k hk => ?_)
      rw [hg k hk]
      by_cases c : 6 - n ≤ k / 3
      · rw [if_pos c, if_pos (by omega)]
      · rw [if_neg c]
        by_cases c2 : 6 - (n + 1) ≤ k / 3
        · rw [if_pos c2]; unfold hI; rw [show k / 3 = 5 - n by omega, hth]; simp
        · rw [if_neg c2]
    · obtain ⟨nh, g1, g2⟩ := passOf_s (sa := sa) (il := g) (ef := ef) hp hth (hro _ hp) (hd _ hp)
      simp only [if_true, bd1_s, if1, illsOf_s _ hp, g1]
      have es : sI g (5 - n) = sI il (5 - n) := by
        unfold sI
        rw [hg _ (by omega), hg _ (by omega), hg _ (by omega), if_neg (by omega), if_neg (by omega), if_neg (by omega)]
      have enh : ∀ k, k < 18 → nh k = if 6 - (n + 1) ≤ k / 3 then hI th sa il ro ef bf k else il k := by
        intro k hk
        rw [g2 k hk]
        by_cases c : k / 3 = 5 - n
        · rw [if_pos c, if_pos (by omega)]
          unfold hI
          rw [c, hth, if_pos rfl]
          refine nv_congr (fun j hj => ?_)
          rw [hg _ (by omega), if_neg (by omega)]
        · rw [if_neg c, hg k hk]
          by_cases c2 : 6 - n ≤ k / 3
          · rw [if_pos c2, if_pos (by omega)]
          · rw [if_neg c2, if_neg (by omega)]
      have es2 : sI nh (5 - n) = sI (hI th sa il ro ef bf) (5 - n) := by
        refine sI_hI (fun k hk => ?_)
        rw [enh k (by omega), if_pos (by omega)]
      rw [es, es2]
      have hnx := ih (n + 1) (by omega) m nh (by omega) enh
      rw [wz] at hnx
      by_cases c : sI (hI th sa il ro ef bf) (5 - n) ≤ sI il (5 - n)
      · rw [if_neg (fun h => h.2 c)] at hnx
        simp only [if_pos c, bd1_s, nme_s, if0, if1, if_true, if_false, Bool.false_eq_true, nI_1, bd2_s, en2]
        exact hnx
      · rw [if_pos ⟨hth, c⟩] at hnx
        simp only [if_neg c, bd1_s, nme_s, if0, if1, if_true, if_false, Bool.false_eq_true, nI_1, bd2_s, en2]
        exact hnx
theorem passHour_s {th sa hr : Int32} {il ro ef bf : Nat → Int32} (hro : ∀ k, k < 6 → 0 ≤ (ro k).toInt ∧ (ro k).toInt ≤ 3) (hd : ∀ k, k < 6 → bf (7 * k) = 0) : ∃ g2, fX1_passHour FU th sa hr il ro ef bf = some (wz th il (hI th sa il ro ef bf) 6, 0, hr + 1, g2) ∧ ∀ k, k < 18 → g2 k = hI th sa il ro ef bf k := by
  obtain ⟨g2, e1, e2⟩ := pass_loop (th := th) (sa := sa) (il := il) (ef := ef) hro hd 6 0 rfl FU il (by decide) (fun k hk => by rw [if_neg (by omega)])
  unfold fX1_passHour
  rw [show fX1_passHour_5 FU th sa ro ef bf FU (-6) 5 il = _ from e1, bd2_s, nme_s]
  exact ⟨g2, rfl, e2⟩
