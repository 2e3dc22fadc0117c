theorem clear_s (g : Nat → Int64) : ∃ g2, fX0_clearRow FU g = some g2 ∧ ∀ k, k < 21 → g2 k = 0 := by
  obtain ⟨g2, e1, e2⟩ := clear_loop 21 0 rfl FU g (by decide) (fun k hk => by omega)
  unfold fX0_clearRow
  rw [show fX0_clearRow_2 FU 0 g = _ from e1, bd1_s]
  exact ⟨g2, rfl, e2⟩
theorem hours_loop {x : Int32} {b n : Nat} (hb' : b < 11) (hn : n ≤ 9) : ∀ (d j : Nat), j + d = n → ∀ (fc fm q1 q2 s : Nat) (f g w w2 : Nat → Int64) (ρ : Nat → Nat), d < fc → d < fm → 0 < s → s ≤ 10 ^ j → sN ρ 21 = s → (∀ k, k < 21 → f k = nL (ρ k)) → (∀ k, k < 21 → w k = nL (ρ k)) → ∃ p1 p2 s2 f2 g2 w3 w4 ρ2, 0 < s2 ∧ s2 < 2 ^ 40 ∧ fX0_spreadDamp_22 FU (nI n) x (nI b) fc (nI j) q1 q2 (nL s) f g = some (p1, p2, nL s2, f2, g2) ∧ fX8_draughts_126 FU (nI n) x (nI b) fm (nL s) (nI j) w w2 = some (nL s2, w3, w4) ∧ sN ρ2 21 = s2 ∧ (∀ k, k < 21 → f2 k = nL (ρ2 k)) ∧ (∀ k, k < 21 → w3 k = nL (ρ2 k)) := by
  intro d
  induction d with
  | zero =>
    intro j hj fc fm q1 q2 s f g w w2 ρ hfc hfm hs0 hs hρ hf hw
    obtain ⟨fc, rfl⟩ : ∃ m, fc = m + 1 := ⟨fc - 1, by omega⟩
    obtain ⟨fm, rfl⟩ : ∃ m, fm = m + 1 := ⟨fm - 1, by omega⟩
    have hp : 10 ^ j ≤ 10 ^ 9 := Nat.pow_le_pow_right (by omega) (by omega)
    rw [fX0_spreadDamp_22, fX8_draughts_126, if_pos (nI_le (by omega) (by omega)), if_pos (nI_le (by omega) (by omega))]
    exact ⟨_, _, s, _, _, _, _, ρ, hs0, by omega, rfl, rfl, hρ, hf, hw⟩
  | succ d ih =>
    intro j hj fc fm q1 q2 s f g w w2 ρ hfc hfm hs0 hs hρ hf hw
    obtain ⟨fc, rfl⟩ : ∃ m, fc = m + 1 := ⟨fc - 1, by omega⟩
    obtain ⟨fm, rfl⟩ : ∃ m, fm = m + 1 := ⟨fm - 1, by omega⟩
    have hp2 : 10 ^ (j + 1) = 10 ^ j * 10 := Nat.pow_succ _ _
    obtain ⟨o1, e1, z1⟩ := clear_s g
    obtain ⟨o2, e2, z2⟩ := mclear_loop 21 0 rfl FU w2 (by decide) (fun k hk => by omega)
    obtain ⟨g2, h2, σ2, e3, e4, e5, e6⟩ := spread_loop (x := x) hb' hf hw 21 0 rfl FU FU o1 o2 (fun _ => 0) (by decide) (by decide) (fun k hk => ⟨z1 k hk, z2 k hk⟩) rfl
    obtain ⟨w3, e7, e8⟩ := mcopy_loop (u := h2) 21 0 rfl FU w (by decide) (fun k hk => by omega)
    rw [fX0_spreadDamp_22, fX8_draughts_126, if_neg (nI_ge (by omega) (by omega)), if_neg (nI_ge (by omega) (by omega)), nme_s, e1, bd1_s, show fX0_spreadDamp_50 x f (nI b) FU 0 o1 = _ from e3, bd1_s, show fX8_draughts_135 FU 0 w2 = _ from e2, bd1_s, show fX8_draughts_159 x w (nI b) FU 0 o2 = _ from e4, bd1_s, show fX8_draughts_232 h2 FU 0 w = _ from e7, bd1_s, nme_s, show nL s * 10 = nL (s * 10) from nL_mul s 10, nI_1]
    unfold fX0_swapRows
    rw [bd4_s, nme_s, nme_s]
    exact ih (j + 1) (by omega) fc fm q2 q1 (s * 10) g2 f w3 h2 σ2 (by omega) (by omega) (by omega) (by omega) (by omega) (fun k hk => (e5 k hk).1) (fun k hk => by rw [e8 k hk]; exact (e5 k hk).2)
theorem most_sum {v : Nat} (hv : v < 21) {f w : Nat → Int64} {ρ : Nat → Nat} (hf : ∀ k, k < 21 → f k = nL (ρ k)) (hw : ∀ k, k < 21 → w k = nL (ρ k)) : ∀ (d i : Nat), i + d = v + 1 → ∀ (fc : Nat), d < fc → fX0_atMost_5 (nI v) f fc (nL (sN ρ i)) (nI i) = some (nL (sN ρ (v + 1))) ∧ fX8_draughts_279 (nI v) w fc (nL (sN ρ i)) (nI i) = some (nL (sN ρ (v + 1))) := by
  intro d
  induction d with
  | zero =>
    intro i hi fc hfc
    obtain ⟨fc, rfl⟩ : ∃ m, fc = m + 1 := ⟨fc - 1, by omega⟩
    obtain rfl : i = v + 1 := by omega
    rw [fX0_atMost_5, fX8_draughts_279, if_pos (nI_lt (by omega) (by omega)), if_pos (nI_lt (by omega) (by omega))]
    exact ⟨rfl, rfl⟩
  | succ d ih =>
    intro i hi fc hfc
    obtain ⟨fc, rfl⟩ : ∃ m, fc = m + 1 := ⟨fc - 1, by omega⟩
    rw [fX0_atMost_5, fX8_draughts_279, if_neg (nI_nlt (by omega) (by omega)), if_neg (nI_nlt (by omega) (by omega)), ldL_at (j := i) rfl (by omega) (by decide), ldL_at (j := i) rfl (by omega) (by decide), hf i (by omega), hw i (by omega), nL_add, nme_s, nme_s, nme_s, nme_s, nI_1]
    exact ih (i + 1) (by omega) fc (by omega)
set_option maxHeartbeats 1000000 in
theorem ps_draughts : PS_draughts := by
  intro th sa hr il ro ef bf li cn be ho af le sg mo mt bk ds ba ml ms si sn pa mm q1 q2 sc crow cnext md mn hH hP hM a1 a2 a3 a4 a5
  obtain ⟨⟨v1, v2, v3, v4, v5, v6, v7, v8, v9, v10, v11⟩, h1, h2, h3, h4, h5, h6, h7, h8, h9, h10⟩ := hH
  subst h1
  unfold fX7_draughts fX8_draughts
  rcases there_cases mt a1 with ⟨g1, g2⟩ | ⟨p, hp, rfl, hbp, g1, g2⟩
  · simp only [g1, g2, bd1_s, nme_s, if0, if1, if_true, if_false, Bool.false_eq_true, nI_1]; exact ⟨_, _, _, _, _, _, _, _, rfl, rfl⟩
  simp only [g1, g2, bd1_s, nme_s, if0, if1, if_true, if_false, Bool.false_eq_true, nI_1, betw_in, among_in (v := a5) (n := 2) (m := 1) (by decide)]
  rcases in_cases a2 0 9 with ⟨e, -⟩ | ⟨e, b2, c2⟩
  · simp only [e, bd1_s, nme_s, if0, if1, if_true, if_false, Bool.false_eq_true, nI_1]; exact ⟨_, _, _, _, _, _, _, _, rfl, rfl⟩
  simp only [e, bd1_s, nme_s, if0, if1, if_true, if_false, Bool.false_eq_true, nI_1]
  rcases in_cases a3 0 10 with ⟨e, -⟩ | ⟨e, b3, c3⟩
  · simp only [e, bd1_s, nme_s, if0, if1, if_true, if_false, Bool.false_eq_true, nI_1]; exact ⟨_, _, _, _, _, _, _, _, rfl, rfl⟩
  simp only [e, bd1_s, nme_s, if0, if1, if_true, if_false, Bool.false_eq_true, nI_1]
  rcases in_cases a4 0 20 with ⟨e, -⟩ | ⟨e, b4, c4⟩
  · simp only [e, bd1_s, nme_s, if0, if1, if_true, if_false, Bool.false_eq_true, nI_1]; exact ⟨_, _, _, _, _, _, _, _, rfl, rfl⟩
  simp only [e, bd1_s, nme_s, if0, if1, if_true, if_false, Bool.false_eq_true, nI_1]
  rcases in_cases a5 0 1 with ⟨e, -⟩ | ⟨e, -, -⟩
  · simp only [e, bd1_s, nme_s, if0, if1, if_true, if_false, Bool.false_eq_true, nI_1]; exact ⟨_, _, _, _, _, _, _, _, rfl, rfl⟩
  simp only [e, bd1_s, nme_s, if0, if1, if_true, if_false, Bool.false_eq_true, nI_1]
  have z0 : (0 : Int32).toInt = 0 := by decide
  have z9 : (9 : Int32).toInt = 9 := by decide
  have z10 : (10 : Int32).toInt = 10 := by decide
  have z20 : (20 : Int32).toInt = 20 := by decide
  obtain ⟨n, hn, rfl⟩ := nI_of_toInt (n := 10) (x := a2) (by omega) (by omega)
  obtain ⟨b, hb', rfl⟩ := nI_of_toInt (n := 11) (x := a3) (by omega) (by omega)
  obtain ⟨v, hv, rfl⟩ := nI_of_toInt (n := 21) (x := a4) (by omega) (by omega)
  obtain ⟨r, hr, er⟩ := nI_of_toInt (n := 4) (v5 p hp).1 (by have := (v5 p hp).2; omega)
  obtain ⟨x, hx, X2⟩ := nI_of_toInt (n := 21) (v4 (3 * p + 2) (by omega)).1 (by have := (v4 (3 * p + 2) (by omega)).2; omega)
  obtain ⟨o1, e1, y1⟩ := clear_s crow
  obtain ⟨u, e2, y2⟩ := mone_loop (bk := bk) hp (by rw [h2 _ (by omega)]; exact X2) hx 21 0 rfl FU md (by decide) (fun k hk => by omega)
  obtain ⟨p1, p2, s2, f2, g2', w3, w4, ρ2, i1, i2, i3, i4, i5, i6, i7⟩ := hours_loop (x := ef (3 * r + 2)) hb' (show n ≤ 9 by omega) n 0 (by omega) FU FU q1 q2 1 (vp_updL o1 x 1) cnext u mn (upN (fun _ => 0) x 1) (by have : FU = 8192 := rfl; omega) (by have : FU = 8192 := rfl; omega) (by decide) (by decide) (by rw [sN_up, if_pos hx]; rfl) (fun k hk => by
    unfold upN
    by_cases e : k = x
    · rw [updL_eq e, if_pos e]; rfl
    · rw [updL_ne e, if_neg e]; exact y1 k hk) (fun k hk => y2 k hk)
  obtain ⟨j1, j2⟩ := most_sum hv i6 i7 (v + 1) 0 (by omega) FU (by have : FU = 8192 := rfl; omega)
  have hle := sN_mono ρ2 (v + 1) 21 (by omega)
  obtain ⟨rr, k1, k2⟩ := part_s (v := nL (sN ρ2 (v + 1))) a5 (by rw [nL_toInt (by omega)]; omega) i1 i2
  rw [show fX1_illOf il (nI p) 2 = _ from illOf_s il (i := 2) hp (by decide), bd1_s, X2]
  unfold fX1_effectOn fX0_spreadDamp fX0_atMost
  rw [ldI_at (j := p) rfl hp (by decide), er, ldI_at (ix32 r) (by omega) (by decide), bd1_s, e1, bd1_s, stL_at (j := x) rfl hx (by decide), show fX0_spreadDamp_22 FU (nI n) (ef (3 * r + 2)) (nI b) FU 0 q1 q2 1 (vp_updL o1 x 1) cnext = _ from i3, bd5_s, bd5_s, show fX0_atMost_5 (nI v) f2 FU 0 0 = _ from j1, bd1_s, k1, bd1_s, bd1_s, ldI_at (show (18 : Int32) + nI p = nI (18 + p) from nI_add 18 p) (by omega) (by decide), h3 p hp, er, ldI_at (iy32 r) (by omega) (by decide), h6 _ (by omega), show fX8_draughts_83 bk (nI p) FU 0 md = _ from e2, bd1_s, show fX8_draughts_126 FU (nI n) (ef (3 * r + 2)) (nI b) FU 1 0 u mn = _ from i4, bd3_s, show fX8_draughts_279 (nI v) w3 FU 0 0 = _ from j2, bd1_s, k2, bd1_s]
  exact ⟨_, _, _, _, _, _, _, _, rfl, rfl⟩
