/-! the reference's hour -/
theorem cl2 {v : Int32} (h0 : 0 ≤ v.toInt) (h1 : v.toInt ≤ 20) : (if (2 : Int32) ≤ v then v - 2 else 0) = cl (v - 2) := by
  obtain ⟨j, hj, rfl⟩ := nI_of_toInt (n := 21) h0 (by omega)
  revert j
  decide +kernel
theorem mh90 {nw ds ro il ef : Nat → Int32} {th sa : Int32} {bf g : Nat → Int32} {p r : Nat} (hp : p < 6) (hr : r < 4) (hro : ro p = nI r) (hn : ∀ k, k < 18 → nw k = il k) (h24 : nw 24 = sa) (hds : ∀ k, k < 12 → ds k = ef k) (m : Nat) : ∃ g2, fX8_hour_90 nw (nI p) ds (nI r) (mS (tB th ro bf p) 6) (m + 4) 0 g = some g2 ∧ ∀ k, g2 k = if k / 3 = p then nv th sa il ro ef bf p (k % 3) else g k := by
  have er2 : (ro p).toInt.toNat = r := by rw [hro, nI_toInt (by omega)]; omega
  have z1 : (0 : Int32) + 1 = nI 1 := rfl
  have z2 : nI 1 + 1 = nI 2 := rfl
  have z3 : nI 2 + 1 = nI 3 := rfl
  have c0 := cl_rng (il (3 * p) + ef (3 * r))
  rw [fX8_hour_90, if_neg (by decide), ldI_at (j := 3 * p) (show 3 * nI p + 0 = _ by rw [Int32.add_zero, iy30]) (by omega) (by decide), ldI_at (j := 3 * r) (show 3 * nI r + 0 = _ by rw [Int32.add_zero, iy30]) (by omega) (by decide), if_neg (show ¬ (0 : Int32) = 1 by decide), hn _ (by omega), hds _ (by omega)]
  simp only [clip_s, bd1_s, Int32.add_zero, if0, if_true]
  rw [ldI_at (i := 24) (j := 24) rfl (by decide) (by decide), h24, has_s]
  simp only [bd1_s]
  have a0 : ∀ (K : Int32 → Option (Nat → Int32)), (bd1 (bd1 (if (if hb sa p = true then (1 : Int32) else 0) = 0 then some (cl (il (3 * p) + ef (3 * r))) else bd1 (if 2 ≤ cl (il (3 * p) + ef (3 * r)) then some (cl (il (3 * p) + ef (3 * r)) - 2) else some 0) fun j609 => some j609) fun j604 => some j604) K) = K (nv th sa il ro ef bf p 0) := by
    intro K
    unfold nv
    rw [er2, ← cl2 c0.1 c0.2]
    cases hb sa p
    · simp only [bd1_s, nme_s, if0, if1, if_true, if_false, Bool.false_eq_true, nI_1]
    · by_cases c : (2 : Int32) ≤ cl (il (3 * p) + ef (3 * r))
      · simp only [if_pos c, bd1_s, nme_s, if0, if1, if_true, if_false, Bool.false_eq_true, nI_1]
      · simp only [if_neg c, bd1_s, nme_s, if0, if1, if_true, if_false, Bool.false_eq_true, nI_1]
  simp only [bd1_s] at a0
  rw [a0]
  simp only [nme_s, z1]
  rw [stI_at (iy30 p) (by omega) (by decide)]
  rw [fX8_hour_90, if_neg (by decide), ldI_at (iy3 p 1) (by omega) (by decide), ldI_at (iy3 r 1) (by omega) (by decide), if_pos (show nI 1 = 1 from rfl), hn _ (by omega), hds _ (by omega)]
  simp only [if_neg (show ¬ nI 1 = 0 by decide)]
  simp only [clip_s, bd1_s, nme_s, z2]
  rw [stI_at (iy3 p 1) (by omega) (by decide)]
  rw [fX8_hour_90, if_neg (by decide), ldI_at (iy3 p 2) (by omega) (by decide), ldI_at (iy3 r 2) (by omega) (by decide), if_neg (show ¬ nI 2 = 1 by decide), hn _ (by omega), hds _ (by omega)]
  simp only [if_neg (show ¬ nI 2 = 0 by decide)]
  simp only [clip_s, bd1_s, nme_s, z3]
  rw [stI_at (iy3 p 2) (by omega) (by decide)]
  rw [fX8_hour_90, if_pos (by decide)]
  refine ⟨_, rfl, fun k => ?_⟩
  simp only [upd]
  by_cases e : k / 3 = p
  · rw [if_pos e]
    rcases (show k = 3 * p ∨ k = 3 * p + 1 ∨ k = 3 * p + 2 by omega) with h | h | h
    · rw [if_neg (by omega), if_neg (by omega), if_pos h, show k % 3 = 0 by omega]
    · rw [if_neg (by omega), if_pos h]
      unfold nv; rw [er2, if_neg (by omega), if_pos (by omega), Int32.add_assoc]
    · rw [if_pos h]
      unfold nv; rw [er2, if_neg (by omega), if_neg (by omega), Int32.add_zero]
  · rw [if_neg e, if_neg (by omega), if_neg (by omega), if_neg (by omega)]
theorem mh2_loop {nw ds ba ro il ef bf : Nat → Int32} {th sa : Int32} (hro : ∀ k, k < 6 → 0 ≤ (ro k).toInt ∧ (ro k).toInt ≤ 3) (hn : ∀ k, k < 18 → nw k = il k) (hr : ∀ q, q < 6 → nw (18 + q) = ro q) (h24 : nw 24 = sa) (hds : ∀ k, k < 12 → ds k = ef k) (hba : ∀ k, k < 36 → ba k = bf k) : ∀ (d i : Nat), i + d = 6 → ∀ (fuel : Nat) (g : Nat → Int32), d < fuel → (∀ k, k / 3 < i → g k = nv th sa il ro ef bf (k / 3) (k % 3)) → ∃ g2, fX8_hour_2 FU nw th ba ds fuel (nI i) g = some g2 ∧ ∀ k, k < 18 → g2 k = nv th sa il ro ef bf (k / 3) (k % 3) := by
  intro d
  induction d with
  | zero =>
    intro i hi fuel g hf hg
    obtain ⟨m, rfl⟩ : ∃ m, fuel = m + 1 := ⟨fuel - 1, by omega⟩
    rw [fX8_hour_2, if_pos (six_le (by omega))]
    exact ⟨g, rfl, fun k hk => hg k (by omega)⟩
  | succ d ih =>
    intro i hi fuel g hf hg
    obtain ⟨m, rfl⟩ : ∃ m, fuel = m + 1 := ⟨fuel - 1, by omega⟩
    have hi6 : i < 6 := by omega
    obtain ⟨r, hr4, er⟩ := nI_of_toInt (n := 4) (hro i hi6).1 (by have := (hro i hi6).2; omega)
    have hm := more_loop (th := th) hi6 hr hba 6 0 rfl FU (by decide)
    obtain ⟨g2, e1, e2⟩ := mh90 (th := th) (bf := bf) (g := g) hi6 hr4 er hn h24 hds 8188
    rw [fX8_hour_2, if_neg (six_nle hi6), ldI_at (iz18 i) (by omega) (by decide), hr i hi6, show fX8_hour_23 (nI i) th nw (ro i) ba FU 0 0 = _ from hm, bd1_s, er, show fX8_hour_90 nw (nI i) ds (nI r) (mS (tB th ro bf i) 6) FU 0 g = _ from e1, bd1_s, nme_s, nI_1]
    refine ih (i + 1) (by omega) m g2 (by omega) (fun k hk => ?_)
    rw [e2 k]
    by_cases c : k / 3 = i
    · rw [if_pos c, c]
    · rw [if_neg c, hg k (by omega)]
theorem div3 : ∀ k : Nat, k < 18 → nI k / 3 = nI (k / 3) := by decide +kernel
theorem mh199_loop {th : Int32} {tn nw : Nat → Int32} : ∀ (d i : Nat), i + d = 18 → ∀ (fuel : Nat) (g : Nat → Int32), d < fuel → (∀ k, g k = if k < i then (if hb th (k / 3) then tn k else nw k) else nw k) → ∃ g2, fX8_hour_199 th tn fuel (nI i) g = some g2 ∧ ∀ k, g2 k = if k < 18 then (if hb th (k / 3) then tn k else nw k) else nw k := by
  intro d
  induction d with
  | zero =>
    intro i hi fuel g hf hg
    obtain ⟨m, rfl⟩ : ∃ m, fuel = m + 1 := ⟨fuel - 1, by omega⟩
    rw [fX8_hour_199, if_pos (show (18 : Int32) ≤ nI i from nI_le (a := 18) (by omega) (by omega))]
    obtain rfl : i = 18 := by omega
    exact ⟨g, rfl, hg⟩
  | succ d ih =>
    intro i hi fuel g hf hg
    obtain ⟨m, rfl⟩ : ∃ m, fuel = m + 1 := ⟨fuel - 1, by omega⟩
    have hi18 : i < 18 := by omega
    rw [fX8_hour_199, if_neg (show ¬ (18 : Int32) ≤ nI i from nI_ge (b := 18) hi18 (by decide)), div3 i hi18, has_s, ldI_at (j := i) rfl (by omega) (by decide), ldI_at (j := i) rfl hi18 (by decide)]
    have hgi : g i = nw i := by rw [hg i, if_neg (by omega)]
    cases hth : hb th (i / 3)
    · simp only [bd1_s, nme_s, if0, if1, if_true, if_false, Bool.false_eq_true, nI_1]
      rw [stI_at (j := i) rfl (by omega) (by decide)]
      refine ih (i + 1) (by omega) m _ (by omega) (fun k => ?_)
      simp only [upd]
      by_cases e : k = i
      · subst e; rw [if_pos rfl, if_pos (by omega), hth, hgi]; simp
      · rw [if_neg e, hg k]
        by_cases c : k < i
        · rw [if_pos c, if_pos (show k < i + 1 by omega)]
        · rw [if_neg c, if_neg (show ¬ k < i + 1 by omega)]
    · simp only [bd1_s, nme_s, if0, if1, if_true, if_false, Bool.false_eq_true, nI_1]
      rw [stI_at (j := i) rfl (by omega) (by decide)]
      refine ih (i + 1) (by omega) m _ (by omega) (fun k => ?_)
      simp only [upd]
      by_cases e : k = i
      · subst e; rw [if_pos rfl, if_pos (by omega), hth, if_pos rfl]
      · rw [if_neg e, hg k]
        by_cases c : k < i
        · rw [if_pos c, if_pos (show k < i + 1 by omega)]
        · rw [if_neg c, if_neg (show ¬ k < i + 1 by omega)]
theorem mhour_s {nw ds ba ro il ef bf tn : Nat → Int32} {th sa : Int32} (hro : ∀ k, k < 6 → 0 ≤ (ro k).toInt ∧ (ro k).toInt ≤ 3) (hn : ∀ k, k < 18 → nw k = il k) (hr : ∀ q, q < 6 → nw (18 + q) = ro q) (h24 : nw 24 = sa) (hds : ∀ k, k < 12 → ds k = ef k) (hba : ∀ k, k < 36 → ba k = bf k) : ∃ g2 t2, fX8_hour FU th nw ds ba tn = some (g2, t2) ∧ (∀ k, k < 18 → g2 k = hI th sa il ro ef bf k) ∧ (∀ q, q < 6 → g2 (18 + q) = ro q) ∧ g2 24 = 0 ∧ g2 25 = nw 25 := by
  obtain ⟨t2, e1, e2⟩ := mh2_loop (th := th) hro hn hr h24 hds hba 6 0 rfl FU tn (by decide) (fun k hk => by omega)
  obtain ⟨g2, e3, e4⟩ := mh199_loop (th := th) (tn := t2) (nw := nw) 18 0 rfl FU nw (by decide) (fun k => by rw [if_neg (by omega)])
  unfold fX8_hour
  rw [show fX8_hour_2 FU nw th ba ds FU 0 tn = _ from e1, bd1_s, show fX8_hour_199 th t2 FU 0 nw = _ from e3, bd1_s, stI_at (i := 24) (j := 24) rfl (by decide) (by decide)]
  refine ⟨_, _, rfl, fun k hk => ?_, fun q hq => ?_, ?_, ?_⟩
  · simp only [upd]; rw [if_neg (by omega), e4, if_pos hk]
    unfold hI
    rw [e2 k hk, hn k hk]
  · simp only [upd]; rw [if_neg (by omega), e4, if_neg (by omega), hr q hq]
  · show (if 24 = 24 then _ else _) = _; rw [if_pos rfl]
  · show (if 25 = 24 then _ else _) = _; rw [if_neg (by decide), e4, if_neg (by omega)]
