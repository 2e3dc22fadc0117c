/-! alone in a room -/
theorem a54_s {ds : Nat → Int32} {p r : Nat} (hp : p < 6) (hr : r < 4) (m : Nat) (f : Nat → Int32) : ∃ f2, fX8_aloneIn_54 (nI p) ds (nI r) (m + 1 + 1 + 1 + 1) (nI 0) f = some f2 ∧ f2 (3 * p) = cl (f (3 * p) + ds (3 * r)) ∧ f2 (3 * p + 1) = cl (f (3 * p + 1) + ds (3 * r + 1)) ∧ f2 (3 * p + 2) = cl (f (3 * p + 2) + ds (3 * r + 2)) := by
  rw [fX8_aloneIn_54, if_neg (show ¬ (3 : Int32) ≤ nI 0 by decide), ldI_at (iy3 p 0) (by omega) (by decide), ldI_at (iy3 r 0) (by omega) (by decide), clip_s, bd1_s, stI_at (iy3 p 0) (by omega) (by decide), nme_s, nI_1]
  rw [fX8_aloneIn_54, if_neg (show ¬ (3 : Int32) ≤ nI (0 + 1) by decide), ldI_at (iy3 p (0 + 1)) (by omega) (by decide), ldI_at (iy3 r (0 + 1)) (by omega) (by decide), clip_s, bd1_s, stI_at (iy3 p (0 + 1)) (by omega) (by decide), nme_s, nI_1]
  rw [fX8_aloneIn_54, if_neg (show ¬ (3 : Int32) ≤ nI (0 + 1 + 1) by decide), ldI_at (iy3 p (0 + 1 + 1)) (by omega) (by decide), ldI_at (iy3 r (0 + 1 + 1)) (by omega) (by decide), clip_s, bd1_s, stI_at (iy3 p (0 + 1 + 1)) (by omega) (by decide), nme_s, nI_1]
  rw [fX8_aloneIn_54, if_pos (show (3 : Int32) ≤ nI (0 + 1 + 1 + 1) by decide)]
  refine ⟨_, rfl, ?_, ?_, ?_⟩
  · simp only [upd]
    rw [if_neg (by omega), if_neg (by omega), if_pos (by omega)]; rfl
  · simp [upd]
  · simp [upd]
theorem a2_s {bk : Nat → Int32} {p : Nat} (hp : p < 6) (m : Nat) (f : Nat → Int32) : ∃ f2, fX8_aloneIn_2 bk (nI p) (m + 1 + 1 + 1 + 1) (nI 0) f = some f2 ∧ f2 (3 * p) = bk (3 * p) ∧ f2 (3 * p + 1) = bk (3 * p + 1) ∧ f2 (3 * p + 2) = bk (3 * p + 2) := by
  rw [fX8_aloneIn_2, if_neg (show ¬ (3 : Int32) ≤ nI 0 by decide), ldI_at (iy3 p 0) (by omega) (by decide), stI_at (iy3 p 0) (by omega) (by decide), nme_s, nI_1]
  rw [fX8_aloneIn_2, if_neg (show ¬ (3 : Int32) ≤ nI (0 + 1) by decide), ldI_at (iy3 p (0 + 1)) (by omega) (by decide), stI_at (iy3 p (0 + 1)) (by omega) (by decide), nme_s, nI_1]
  rw [fX8_aloneIn_2, if_neg (show ¬ (3 : Int32) ≤ nI (0 + 1 + 1) by decide), ldI_at (iy3 p (0 + 1 + 1)) (by omega) (by decide), stI_at (iy3 p (0 + 1 + 1)) (by omega) (by decide), nme_s, nI_1]
  rw [fX8_aloneIn_2, if_pos (show (3 : Int32) ≤ nI (0 + 1 + 1 + 1) by decide)]
  refine ⟨_, rfl, ?_, ?_, ?_⟩
  · simp only [upd]
    rw [if_neg (by omega), if_neg (by omega), if_pos (by omega)]; rfl
  · simp [upd]
  · simp [upd]
theorem malone_loop {ds : Nat → Int32} {p r : Nat} (hp : p < 6) (hr : r < 4) {e0 e1 e2 x0 x1 x2 : Nat} (h0 : e0 < 47) (h1 : e1 < 47) (h2 : e2 < 47) (y0 : x0 < 21) (y1 : x1 < 21) (y2 : x2 < 21) (E0 : ds (3 * r) = nI e0 - 23) (E1 : ds (3 * r + 1) = nI e1 - 23) (E2 : ds (3 * r + 2) = nI e2 - 23) : ∀ (d h : Nat), h + d = 61 → ∀ (fuel : Nat) (nw : Nat → Int32), d < fuel → h ≤ tN e0 e1 e2 x0 x1 x2 → nw (3 * p) = nI (latN e0 h x0) → nw (3 * p + 1) = nI (latN e1 h x1) → nw (3 * p + 2) = nI (latN e2 h x2) → ∃ a, fX8_aloneIn_35 FU (nI p) ds (nI r) fuel (nI h) nw = some (if tN e0 e1 e2 x0 x1 x2 ≤ 60 then Sum.inl (nI (tN e0 e1 e2 x0 x1 x2), a) else Sum.inr a) := by
  intro d
  induction d with
  | zero =>
    intro h hh fuel nw hf hT n0 n1 n2
    obtain ⟨m, rfl⟩ : ∃ m, fuel = m + 1 := ⟨fuel - 1, by omega⟩
    rw [fX8_aloneIn_35, if_pos (show (61 : Int32) ≤ nI h from nI_le (a := 61) (by omega) (by omega))]
    refine ⟨nw, ?_⟩
    rw [if_neg (by omega)]
  | succ d ih =>
    intro h hh fuel nw hf hT n0 n1 n2
    obtain ⟨m, rfl⟩ : ∃ m, fuel = m + 1 := ⟨fuel - 1, by omega⟩
    have l0 := latN_lt h0 h x0 y0
    have l1 := latN_lt h1 h x1 y1
    have l2 := latN_lt h2 h x2 y2
    have key := tN_s h0 h1 h2 y0 y1 y2 (show h ≤ 60 by omega) hT
    rw [fX8_aloneIn_35, if_neg (show ¬ (61 : Int32) ≤ nI h from nI_ge (b := 61) (by omega) (by decide)), millsOf_s nw hp, bd1_s, sI_n n0 n1 n2]
    by_cases z : latN e0 h x0 + latN e1 h x1 + latN e2 h x2 = 0
    · rw [if_pos (show nI (latN e0 h x0 + latN e1 h x1 + latN e2 h x2) = 0 by rw [z]; rfl), ← key.mp z]
      refine ⟨nw, ?_⟩
      rw [if_pos (by omega)]
    · rw [if_neg (show ¬ nI (latN e0 h x0 + latN e1 h x1 + latN e2 h x2) = 0 from fun e => z ((nI_eq (b := 0) (by omega) (by decide)).mp e))]
      obtain ⟨f2, f1, i0, i1, i2⟩ := a54_s (ds := ds) hp hr 8188 nw
      rw [show fX8_aloneIn_54 (nI p) ds (nI r) FU 0 nw = _ from f1, bd1_s, nme_s, nI_1]
      have hne : h ≠ tN e0 e1 e2 x0 x1 x2 := fun e => z (key.mpr e)
      exact ih (h + 1) (by omega) m f2 (by omega) (by omega) (by rw [i0, n0, E0, clN_s e0 h0 _ l0, latN_succ]) (by rw [i1, n1, E1, clN_s e1 h1 _ l1, latN_succ]) (by rw [i2, n2, E2, clN_s e2 h2 _ l2, latN_succ])
theorem mS_z : mS (fun _ => 0) 6 = 0 := by decide
theorem alone_row {il ef bf ds bk : Nat → Int32} {p r : Nat} (hp : p < 6) (hr : r < 4) (v4 : ∀ k, k < 18 → 0 ≤ (il k).toInt ∧ (il k).toInt ≤ 20) (v6 : ∀ k, k < 12 → -5 ≤ (ef k).toInt ∧ (ef k).toInt ≤ 5) (h2 : ∀ k, k < 18 → bk k = il k) (h6 : ∀ k, k < 12 → ds k = ef k) : ∃ T, (T ≤ 20 ∨ T = 1000) ∧ fX1_hoursAlone FU il ef bf (nI p) (nI r) = some (nI T) ∧ ∀ nw, ∃ o, fX8_aloneIn FU bk nw ds (nI p) (nI r) = some (if T ≤ 60 then nI T else 1000000, o) := by
  have ht : ∀ q, q < 6 → (if hb 0 q then bf (6 * q + p) else 0) = (fun _ => (0 : Int32)) q := fun q hq => by rw [hb_zero q hq]; rfl
  obtain ⟨e0, k0, E0⟩ := to23 (d := ef (3 * r)) (by have := (v6 (3 * r) (by omega)).1; omega) (by have := (v6 (3 * r) (by omega)).2; omega)
  obtain ⟨e1, k1, E1⟩ := to23 (d := ef (3 * r + 1)) (by have := (v6 (3 * r + 1) (by omega)).1; omega) (by have := (v6 (3 * r + 1) (by omega)).2; omega)
  obtain ⟨e2, k2, E2⟩ := to23 (d := ef (3 * r + 2)) (by have := (v6 (3 * r + 2) (by omega)).1; omega) (by have := (v6 (3 * r + 2) (by omega)).2; omega)
  obtain ⟨x0, y0, X0⟩ := nI_of_toInt (n := 21) (v4 (3 * p) (by omega)).1 (by have := (v4 (3 * p) (by omega)).2; omega)
  obtain ⟨x1, y1, X1⟩ := nI_of_toInt (n := 21) (v4 (3 * p + 1) (by omega)).1 (by have := (v4 (3 * p + 1) (by omega)).2; omega)
  obtain ⟨x2, y2, X2⟩ := nI_of_toInt (n := 21) (v4 (3 * p + 2) (by omega)).1 (by have := (v4 (3 * p + 2) (by omega)).2; omega)
  have hl := lose_s (il := il) (bf := bf) hp hr 0 ht k0 k1 k2 y0 y1 y2 E0 (by rw [mS_z, Int32.add_zero]; exact E1) E2 X0 X1 X2
  refine ⟨tN e0 e1 e2 x0 x1 x2, tN_rng k0 k1 k2 y0 y1 y2, ?_, fun nw => ?_⟩
  · unfold fX1_hoursAlone
    rw [illsOf_s il hp, bd1_s, sI_n X0 X1 X2]
    unfold tN
    by_cases z : x0 + x1 + x2 = 0
    · rw [if_pos (show nI (x0 + x1 + x2) = 0 by rw [z]; rfl), if_pos z]; rfl
    · rw [if_neg (show ¬ nI (x0 + x1 + x2) = 0 from fun e => z ((nI_eq (b := 0) (by omega) (by decide)).mp e)), if_neg z, hl, bd1_s]
  · obtain ⟨f2, f1, i0, i1, i2⟩ := a2_s (bk := bk) hp 8188 nw
    obtain ⟨a, g1⟩ := malone_loop (ds := ds) hp hr k0 k1 k2 y0 y1 y2 (by rw [h6 _ (by omega)]; exact E0) (by rw [h6 _ (by omega)]; exact E1) (by rw [h6 _ (by omega)]; exact E2) 61 0 rfl FU f2 (by decide) (by omega) (by rw [i0, h2 _ (by omega)]; exact X0) (by rw [i1, h2 _ (by omega)]; exact X1) (by rw [i2, h2 _ (by omega)]; exact X2)
    unfold fX8_aloneIn
    rw [show fX8_aloneIn_2 bk (nI p) FU 0 nw = _ from f1, bd1_s, show fX8_aloneIn_35 FU (nI p) ds (nI r) FU 0 f2 = _ from g1]
    by_cases c : tN e0 e1 e2 x0 x1 x2 ≤ 60
    · rw [if_pos c, if_pos c, br1_l]; exact ⟨_, rfl⟩
    · rw [if_neg c, if_neg c, br1_r]; exact ⟨_, rfl⟩
theorem alone_loop {il ef bf ds bk : Nat → Int32} {p : Nat} (hp : p < 6) (v4 : ∀ k, k < 18 → 0 ≤ (il k).toInt ∧ (il k).toInt ≤ 20) (v6 : ∀ k, k < 12 → -5 ≤ (ef k).toInt ∧ (ef k).toInt ≤ 5) (h2 : ∀ k, k < 18 → bk k = il k) (h6 : ∀ k, k < 12 → ds k = ef k) : ∀ (d i : Nat), i + d = 4 → ∀ (fc fm b c : Nat) (a' b' : Int32) (nw : Nat → Int32), d < fc → d < fm → c < 4 → ((b ≤ 20 ∧ a' = nI c ∧ b' = nI b) ∨ (b = 1000 ∧ a' = -6 ∧ b' = 1000000)) → ∃ T s c2 d2 o, s < 4 ∧ fX7_alone_40 FU il ef bf (nI p) fc (nI c) (nI b) (nI i) = some (nI s, nI T) ∧ fX8_alone_32 FU bk ds (nI p) fm a' b' (nI i) nw = some (c2, d2, o) ∧ ((T ≤ 20 ∧ c2 = nI s ∧ d2 = nI T) ∨ (T = 1000 ∧ c2 = -6)) := by
  intro d
  induction d with
  | zero =>
    intro i hi fc fm b c a' b' nw hfc hfm hc4 hab
    obtain ⟨fc, rfl⟩ : ∃ m, fc = m + 1 := ⟨fc - 1, by omega⟩
    obtain ⟨fm, rfl⟩ : ∃ m, fm = m + 1 := ⟨fm - 1, by omega⟩
    have h4 : (4 : Int32) ≤ nI i := nI_le (a := 4) (by omega) (by omega)
    rw [fX7_alone_40, fX8_alone_32, if_pos h4, if_pos h4]
    refine ⟨b, c, _, _, _, hc4, rfl, rfl, ?_⟩
    rcases hab with ⟨q1, q2, q3⟩ | ⟨q1, q2, q3⟩
    · exact Or.inl ⟨q1, q2, q3⟩
    · exact Or.inr ⟨q1, q2⟩
  | succ d ih =>
    intro i hi fc fm b c a' b' nw hfc hfm hc4 hab
    obtain ⟨fc, rfl⟩ : ∃ m, fc = m + 1 := ⟨fc - 1, by omega⟩
    obtain ⟨fm, rfl⟩ : ∃ m, fm = m + 1 := ⟨fm - 1, by omega⟩
    have h4 : ¬ (4 : Int32) ≤ nI i := nI_ge (b := 4) (by omega) (by decide)
    obtain ⟨T, t1, t2, t3⟩ := alone_row (bf := bf) hp (show i < 4 by omega) v4 v6 h2 h6
    obtain ⟨o, t4⟩ := t3 nw
    rw [fX7_alone_40, fX8_alone_32, if_neg h4, if_neg h4, t2, t4, bd1_s, bd2_s]
    rcases hab with ⟨q1, rfl, rfl⟩ | ⟨rfl, rfl, rfl⟩
    · rcases t1 with t1 | rfl
      · rw [if_pos (show T ≤ 60 by omega)]
        by_cases k : b ≤ T
        · have k' : nI b ≤ nI T := nI_le k (by omega)
          simp only [if_pos k', bd1_s, nme_s, if0, if1, if_true, if_false, Bool.false_eq_true, nI_1, bd2_s]
          exact ih (i + 1) (by omega) fc fm b c _ _ o (by omega) (by omega) hc4 (Or.inl ⟨q1, rfl, rfl⟩)
        · have k' : ¬ nI b ≤ nI T := nI_ge (by omega) (by omega)
          simp only [if_neg k', bd1_s, nme_s, if0, if1, if_true, if_false, Bool.false_eq_true, nI_1, bd2_s]
          exact ih (i + 1) (by omega) fc fm T i _ _ o (by omega) (by omega) (by omega) (Or.inl ⟨t1, rfl, rfl⟩)
      · rw [if_neg (show ¬ 1000 ≤ 60 by decide)]
        have k1 : nI b ≤ nI 1000 := nI_le (by omega) (by omega)
        have k2 : nI b ≤ (1000000 : Int32) := nI_le (b := 1000000) (by omega) (by omega)
        simp only [if_pos k1, if_pos k2, bd1_s, nme_s, if0, if1, if_true, if_false, Bool.false_eq_true, nI_1, bd2_s]
        exact ih (i + 1) (by omega) fc fm b c _ _ o (by omega) (by omega) hc4 (Or.inl ⟨q1, rfl, rfl⟩)
    · rcases t1 with t1 | rfl
      · rw [if_pos (show T ≤ 60 by omega)]
        have k1 : ¬ nI 1000 ≤ nI T := nI_ge (by omega) (by omega)
        have k2 : ¬ (1000000 : Int32) ≤ nI T := nI_ge (b := 1000000) (by omega) (by omega)
        simp only [if_neg k1, if_neg k2, bd1_s, nme_s, if0, if1, if_true, if_false, Bool.false_eq_true, nI_1, bd2_s]
        exact ih (i + 1) (by omega) fc fm T i _ _ o (by omega) (by omega) (by omega) (Or.inl ⟨t1, rfl, rfl⟩)
      · rw [if_neg (show ¬ 1000 ≤ 60 by decide)]
        have k1 : nI 1000 ≤ nI 1000 := nI_le (by omega) (by omega)
        have k2 : (1000000 : Int32) ≤ 1000000 := by decide
        simp only [if_pos k1, if_pos k2, bd1_s, nme_s, if0, if1, if_true, if_false, Bool.false_eq_true, nI_1, bd2_s]
        exact ih (i + 1) (by omega) fc fm 1000 c _ _ o (by omega) (by omega) hc4 (Or.inr ⟨rfl, rfl, rfl⟩)
theorem ps_alone : PS_alone := by
  intro th sa hr il ro ef bf li cn be ho af le sg mo mt bk ds ba ml ms si sn pa mm nw hH hP hM a1 a2
  obtain ⟨⟨v1, v2, v3, v4, v5, v6, v7, v8, v9, v10, v11⟩, h1, h2, h3, h4, h5, h6, h7, h8, h9, h10⟩ := hH
  subst h1
  unfold fX7_alone fX8_alone
  rcases there_cases mt a1 with ⟨g1, g2⟩ | ⟨p, hp, rfl, hbp, g1, g2⟩
  · simp only [g1, g2, bd1_s, nme_s, if0, if1, if_true, if_false, Bool.false_eq_true, nI_1]; exact ⟨_, _, rfl, rfl⟩
  simp only [g1, g2, bd1_s, nme_s, if0, if1, if_true, if_false, Bool.false_eq_true, nI_1]
  rw [among_in (m := 1) (by decide)]
  rcases in_cases a2 0 1 with ⟨e, -⟩ | ⟨e, -, -⟩
  · rw [e]; simp only [bd1_s, nme_s, if0, if1, if_true, if_false, Bool.false_eq_true, nI_1]; exact ⟨_, _, rfl, rfl⟩
  rw [e]
  simp only [bd1_s, nme_s, if0, if1, if_true, if_false, Bool.false_eq_true, nI_1]
  obtain ⟨T, t1, t2, t3⟩ := alone_row (bf := bf) (r := 0) hp (by decide) v4 v6 h2 h6
  obtain ⟨o, t4⟩ := t3 nw
  rw [show fX1_hoursAlone FU il ef bf (nI p) 0 = _ from t2, bd1_s]
  show ∃ x y, _ ∧ bd3 (fX8_alone_32 FU bk ds (nI p) (8191 + 1) (-6) 1000000 0 nw) _ = _
  rw [fX8_alone_32, if_neg (show ¬ (4 : Int32) ≤ 0 by decide), show fX8_aloneIn FU bk nw ds (nI p) 0 = _ from t4, bd2_s]
  have fin : ∀ a' b' : Int32, ((T ≤ 20 ∧ a' = nI 0 ∧ b' = nI T) ∨ (T = 1000 ∧ a' = -6 ∧ b' = 1000000)) → ∃ x y, (bd2 (fX7_alone_40 FU il ef bf (nI p) FU 0 (nI T) 1) fun u35 u36 => if u36 ≤ 60 then if a2 = 0 then some u35 else some u36 else some (-6)) = some x ∧ (bd3 (fX8_alone_32 FU bk ds (nI p) 8191 a' b' 1 o) fun u44 u45 u46 => if u44 < 0 then some (u44, u46) else if a2 = 0 then some (u44, u46) else some (u45, u46)) = some (x, y) := by
    intro a' b' hab
    obtain ⟨T2, s, c2, d2, o2, hs, f1, f2, f3⟩ := alone_loop (bf := bf) hp v4 v6 h2 h6 3 1 rfl FU 8191 T 0 a' b' o (by decide) (by decide) (by decide) hab
    rw [show fX7_alone_40 FU il ef bf (nI p) FU 0 (nI T) 1 = _ from f1, show fX8_alone_32 FU bk ds (nI p) 8191 a' b' 1 o = _ from f2, bd2_s, bd3_s]
    rcases f3 with ⟨q1, rfl, rfl⟩ | ⟨rfl, rfl⟩
    · rw [if_pos (show nI T2 ≤ 60 from nI_le (b := 60) (by omega) (by omega)), if_neg (nI_pos (n := s) (by omega))]
      by_cases k : a2 = 0
      · rw [if_pos k, if_pos k]; exact ⟨_, _, rfl, rfl⟩
      · rw [if_neg k, if_neg k]; exact ⟨_, _, rfl, rfl⟩
    · rw [if_neg (show ¬ nI 1000 ≤ 60 by decide), if_pos (show (-6 : Int32) < 0 by decide)]
      exact ⟨_, _, rfl, rfl⟩
  rcases t1 with t1 | rfl
  · rw [if_pos (show T ≤ 60 by omega)]
    have k2 : ¬ (1000000 : Int32) ≤ nI T := nI_ge (b := 1000000) (by omega) (by omega)
    simp only [if_neg k2, bd1_s, nme_s]
    exact fin _ _ (Or.inl ⟨t1, rfl, rfl⟩)
  · rw [if_neg (show ¬ 1000 ≤ 60 by decide)]
    have k2 : (1000000 : Int32) ≤ 1000000 := by decide
    simp only [if_pos k2, bd1_s, nme_s]
    exact fin _ _ (Or.inr ⟨rfl, rfl, rfl⟩)
