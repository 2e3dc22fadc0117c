/-! how long until the ills of a piece are gone -/
def uN (e x : Nat) : Nat := if x = 0 then (if 23 < e then 1000 else 0) else if e < 23 then (x + (23 - e) - 1) / (23 - e) else 1000
def clN (e x : Nat) : Nat := if x + e < 23 then 0 else if 43 < x + e then 20 else x + e - 23
theorem uN_s : ∀ e : Nat, e < 47 → ∀ x : Nat, x < 21 → fX7_hoursUntilGone (nI x) (nI e - 23) = some (nI (uN e x)) := by decide +kernel
theorem uN_rng : ∀ e : Nat, e < 47 → ∀ x : Nat, x < 21 → (uN e x ≤ 20 ∨ uN e x = 1000) ∧ (0 < x → 1 ≤ uN e x) := by decide +kernel
theorem clN_s : ∀ e : Nat, e < 47 → ∀ x : Nat, x < 21 → cl (nI x + (nI e - 23)) = nI (clN e x) := by decide +kernel
theorem clN_lt : ∀ e : Nat, e < 47 → ∀ x : Nat, x < 21 → clN e x < 21 := by decide +kernel
theorem uN_step : ∀ e : Nat, e < 47 → ∀ x : Nat, x < 21 → (clN e x = 0 ↔ uN e x ≤ 1) ∧ ((uN e (clN e x) = 1000 ∧ uN e x = 1000) ∨ (uN e (clN e x) + 1 = uN e x ∧ uN e x ≤ 20) ∨ (uN e (clN e x) = 0 ∧ uN e x ≤ 1)) := by decide +kernel
def latN (e : Nat) : Nat → Nat → Nat
  | 0, x => x
  | h + 1, x => latN e h (clN e x)
theorem latN_succ (e : Nat) : ∀ h x, latN e (h + 1) x = clN e (latN e h x) := by
  intro h
  induction h with
  | zero => intro x; rfl
  | succ h ih => intro x; rw [latN, ih]; rfl
theorem latN_lt {e : Nat} (he : e < 47) : ∀ h x, x < 21 → latN e h x < 21 := by
  intro h
  induction h with
  | zero => intro x hx; exact hx
  | succ h ih => intro x hx; exact ih _ (clN_lt e he x hx)
theorem latN_u {e : Nat} (he : e < 47) : ∀ h, h < 60 → ∀ x, x < 21 → (latN e (h + 1) x = 0 ↔ uN e x ≤ h + 1) := by
  intro h
  induction h with
  | zero => intro _ x hx; exact (uN_step e he x hx).1
  | succ h ih =>
    intro hh x hx
    rw [latN, ih (by omega) _ (clN_lt e he x hx)]
    have := (uN_step e he x hx).2
    omega
def mx3 (a b c : Nat) : Nat := if (if a < b then b else a) < c then c else (if a < b then b else a)
/-- the hour at which all three are gone -/
def tN (e0 e1 e2 x0 x1 x2 : Nat) : Nat := if x0 + x1 + x2 = 0 then 0 else mx3 (uN e0 x0) (uN e1 x1) (uN e2 x2)
theorem tN_rng {e0 e1 e2 x0 x1 x2 : Nat} (h0 : e0 < 47) (h1 : e1 < 47) (h2 : e2 < 47) (y0 : x0 < 21) (y1 : x1 < 21) (y2 : x2 < 21) : tN e0 e1 e2 x0 x1 x2 ≤ 20 ∨ tN e0 e1 e2 x0 x1 x2 = 1000 := by
  have a := (uN_rng e0 h0 x0 y0).1
  have b := (uN_rng e1 h1 x1 y1).1
  have c := (uN_rng e2 h2 x2 y2).1
  unfold tN mx3
  (repeat' split) <;> omega
theorem tN_s {e0 e1 e2 x0 x1 x2 : Nat} (h0 : e0 < 47) (h1 : e1 < 47) (h2 : e2 < 47) (y0 : x0 < 21) (y1 : x1 < 21) (y2 : x2 < 21) {h : Nat} (hh : h ≤ 60) (hT : h ≤ tN e0 e1 e2 x0 x1 x2) : (latN e0 h x0 + latN e1 h x1 + latN e2 h x2 = 0 ↔ h = tN e0 e1 e2 x0 x1 x2) := by
  have a := uN_rng e0 h0 x0 y0
  have b := uN_rng e1 h1 x1 y1
  have c := uN_rng e2 h2 x2 y2
  cases h with
  | zero =>
    show x0 + x1 + x2 = 0 ↔ _
    unfold tN mx3
    (repeat' split) <;> omega
  | succ h =>
    have a' := latN_u h0 h (by omega) x0 y0
    have b' := latN_u h1 h (by omega) x1 y1
    have c' := latN_u h2 h (by omega) x2 y2
    revert hT
    unfold tN mx3
    intro hT
    by_cases z : x0 + x1 + x2 = 0
    · rw [if_pos z] at hT; omega
    · rw [if_neg z] at hT ⊢
      generalize latN e0 (h + 1) x0 = l0 at *
      generalize latN e1 (h + 1) x1 = l1 at *
      generalize latN e2 (h + 1) x2 = l2 at *
      revert hT
      (repeat' split) <;> omega
theorem to23 {d : Int32} (h0 : -23 ≤ d.toInt) (h1 : d.toInt ≤ 23) : ∃ e : Nat, e < 47 ∧ d = nI e - 23 := by
  refine ⟨(d.toInt + 23).toNat, by omega, Int32.toInt_inj.mp ?_⟩
  have z : (23 : Int32).toInt = 23 := by decide
  rw [Int32.toInt_sub, nI_toInt (by omega), z, Int.bmod_eq_of_le (by omega) (by omega)]
  omega
theorem mS_rng {t : Nat → Int32} (h : ∀ q, q < 6 → -3 ≤ (t q).toInt ∧ (t q).toInt ≤ 3) : ∀ n : Nat, n ≤ 6 → -(3 * (n : Int)) ≤ (mS t n).toInt ∧ (mS t n).toInt ≤ 3 * (n : Int) := by
  intro n
  induction n with
  | zero => intro _; rw [mS]; decide
  | succ n ih =>
    intro hn
    have a := ih (by omega)
    have b := h n (by omega)
    rw [mS, Int32.toInt_add, Int.bmod_eq_of_le (by omega) (by omega)]
    omega
theorem sum_rng {a b : Int32} (h1 : -5 ≤ a.toInt) (h2 : a.toInt ≤ 5) (h3 : -18 ≤ b.toInt) (h4 : b.toInt ≤ 18) : -23 ≤ (a + b).toInt ∧ (a + b).toInt ≤ 23 := by
  rw [Int32.toInt_add, Int.bmod_eq_of_le (by omega) (by omega)]; omega
theorem lose_s {il ef bf t : Nat → Int32} {p r : Nat} (hp : p < 6) (hr : r < 4) (W : Int32) (ht : ∀ q, q < 6 → (if hb W q then bf (6 * q + p) else 0) = t q) {e0 e1 e2 x0 x1 x2 : Nat} (h0 : e0 < 47) (h1 : e1 < 47) (h2 : e2 < 47) (y0 : x0 < 21) (y1 : x1 < 21) (y2 : x2 < 21) (E0 : ef (3 * r) = nI e0 - 23) (E1 : ef (3 * r + 1) + mS t 6 = nI e1 - 23) (E2 : ef (3 * r + 2) = nI e2 - 23) (X0 : il (3 * p) = nI x0) (X1 : il (3 * p + 1) = nI x1) (X2 : il (3 * p + 2) = nI x2) : fX1_hoursToLoseAll FU il ef bf (nI p) (nI r) W = some (nI (mx3 (uN e0 x0) (uN e1 x1) (uN e2 x2))) := by
  have a := (uN_rng e0 h0 x0 y0).1
  have b := (uN_rng e1 h1 x1 y1).1
  have c := (uN_rng e2 h2 x2 y2).1
  have st : ∀ (m n : Nat), m ≤ 1000 → n ≤ 1000 → (if nI m < nI n then nI n else nI m) = nI (if m < n then n else m) := by
    intro m n hm hn
    by_cases q : m < n
    · rw [if_pos q, if_pos (nI_lt q (by omega))]
    · rw [if_neg q, if_neg (nI_nlt (by omega) (by omega))]
  have s0 := st 0 (uN e0 x0) (by omega) (by omega)
  rw [show (if 0 < uN e0 x0 then uN e0 x0 else 0) = uN e0 x0 by split <;> omega] at s0
  have s1 := st (uN e0 x0) (uN e1 x1) (by omega) (by omega)
  have s2 := st (if uN e0 x0 < uN e1 x1 then uN e1 x1 else uN e0 x0) (uN e2 x2) (by split <;> omega) (by omega)
  unfold fX1_hoursToLoseAll
  show bd1 (fX1_hoursToLoseAll_6 FU il (nI p) ef bf (nI r) W (8188 + 1 + 1 + 1 + 1) (nI 0) (nI 0)) _ = _
  rw [fX1_hoursToLoseAll_6, if_neg (show ¬ (3 : Int32) ≤ nI 0 by decide), illOf_s il hp (by decide), change_s hp (by decide) hr W ht, if_neg (show ¬ 0 = 1 by decide), bd1_s, bd1_s, Nat.add_zero, Nat.add_zero, X0, E0, uN_s e0 h0 x0 y0, bd1_s, nme_s, nme_s, s0, nI_1]
  rw [fX1_hoursToLoseAll_6, if_neg (show ¬ (3 : Int32) ≤ nI (0 + 1) by decide), illOf_s il hp (by decide), change_s hp (by decide) hr W ht, if_pos (show 0 + 1 = 1 from rfl), bd1_s, bd1_s, X1, E1, uN_s e1 h1 x1 y1, bd1_s, nme_s, nme_s, s1, nI_1]
  rw [fX1_hoursToLoseAll_6, if_neg (show ¬ (3 : Int32) ≤ nI (0 + 1 + 1) by decide), illOf_s il hp (by decide), change_s hp (by decide) hr W ht, if_neg (show ¬ 0 + 1 + 1 = 1 by decide), bd1_s, bd1_s, X2, E2, uN_s e2 h2 x2 y2, bd1_s, nme_s, nme_s, s2, nI_1]
  rw [fX1_hoursToLoseAll_6, if_pos (show (3 : Int32) ≤ nI (0 + 1 + 1 + 1) by decide), bd1_s]; rfl
theorem sI_n {f : Nat → Int32} {p a b c : Nat} (h0 : f (3 * p) = nI a) (h1 : f (3 * p + 1) = nI b) (h2 : f (3 * p + 2) = nI c) : sI f p = nI (a + b + c) := by
  unfold sI; rw [h0, h1, h2, nI_add, nI_add]
theorem hI_at {th : Int32} {nw ro ef bf : Nat → Int32} {p r : Nat} (hp : p < 6) (hbp : hb th p = true) (er : (ro p).toInt.toNat = r) : hI th 0 nw ro ef bf (3 * p) = cl (nw (3 * p) + ef (3 * r)) ∧ hI th 0 nw ro ef bf (3 * p + 1) = cl (nw (3 * p + 1) + (ef (3 * r + 1) + mS (tB th ro bf p) 6)) ∧ hI th 0 nw ro ef bf (3 * p + 2) = cl (nw (3 * p + 2) + ef (3 * r + 2)) := by
  have hz := hb_zero p hp
  refine ⟨?_, ?_, ?_⟩
  · unfold hI; rw [show 3 * p / 3 = p by omega, show 3 * p % 3 = 0 by omega, if_pos hbp]; unfold nv; rw [if_pos rfl, hz, er]; rfl
  · unfold hI; rw [show (3 * p + 1) / 3 = p by omega, show (3 * p + 1) % 3 = 1 by omega, if_pos hbp]; unfold nv; rw [if_neg (by decide), if_pos rfl, er]
  · unfold hI; rw [show (3 * p + 2) / 3 = p by omega, show (3 * p + 2) % 3 = 2 by omega, if_pos hbp]; unfold nv; rw [if_neg (by decide), if_neg (by decide), er]
theorem mstays_loop {th : Int32} {ds ba ro ef bf : Nat → Int32} {p r : Nat} (hp : p < 6) (hbp : hb th p = true) (hro : ∀ k, k < 6 → 0 ≤ (ro k).toInt ∧ (ro k).toInt ≤ 3) (er : (ro p).toInt.toNat = r) (hds : ∀ k, k < 12 → ds k = ef k) (hba : ∀ k, k < 36 → ba k = bf k) {e0 e1 e2 x0 x1 x2 : Nat} (h0 : e0 < 47) (h1 : e1 < 47) (h2 : e2 < 47) (y0 : x0 < 21) (y1 : x1 < 21) (y2 : x2 < 21) (E0 : ef (3 * r) = nI e0 - 23) (E1 : ef (3 * r + 1) + mS (tB th ro bf p) 6 = nI e1 - 23) (E2 : ef (3 * r + 2) = nI e2 - 23) : ∀ (d h : Nat), h + d = 61 → ∀ (fuel : Nat) (nw tn : Nat → Int32), d < fuel → h ≤ tN e0 e1 e2 x0 x1 x2 → nw (3 * p) = nI (latN e0 h x0) → nw (3 * p + 1) = nI (latN e1 h x1) → nw (3 * p + 2) = nI (latN e2 h x2) → (∀ q, q < 6 → nw (18 + q) = ro q) → nw 24 = 0 → ∃ a b, fX8_stays_24 FU (nI p) th ds ba fuel (nI h) nw tn = some (if tN e0 e1 e2 x0 x1 x2 ≤ 60 then Sum.inl (nI (tN e0 e1 e2 x0 x1 x2), a, b) else Sum.inr (a, b)) := by
  intro d
  induction d with
  | zero =>
    intro h hh fuel nw tn hf hT n0 n1 n2 nr n24
    obtain ⟨m, rfl⟩ : ∃ m, fuel = m + 1 := ⟨fuel - 1, by omega⟩
    rw [fX8_stays_24, if_pos (show (61 : Int32) ≤ nI h from nI_le (a := 61) (by omega) (by omega))]
    refine ⟨nw, tn, ?_⟩
    rw [if_neg (by omega)]
  | succ d ih =>
    intro h hh fuel nw tn hf hT n0 n1 n2 nr n24
    obtain ⟨m, rfl⟩ : ∃ m, fuel = m + 1 := ⟨fuel - 1, by omega⟩
    have l0 := latN_lt h0 h x0 y0
    have l1 := latN_lt h1 h x1 y1
    have l2 := latN_lt h2 h x2 y2
    have key := tN_s h0 h1 h2 y0 y1 y2 (show h ≤ 60 by omega) hT
    rw [fX8_stays_24, if_neg (show ¬ (61 : Int32) ≤ nI h from nI_ge (b := 61) (by omega) (by decide)), millsOf_s nw hp, bd1_s, sI_n n0 n1 n2]
    by_cases z : latN e0 h x0 + latN e1 h x1 + latN e2 h x2 = 0
    · rw [if_pos (show nI (latN e0 h x0 + latN e1 h x1 + latN e2 h x2) = 0 by rw [z]; rfl), ← key.mp z]
      refine ⟨nw, tn, ?_⟩
      rw [if_pos (by omega)]
    · rw [if_neg (show ¬ nI (latN e0 h x0 + latN e1 h x1 + latN e2 h x2) = 0 from fun e => z ((nI_eq (b := 0) (by omega) (by decide)).mp e))]
      obtain ⟨g2, t2, f1, f2, f3, f4, f5⟩ := mhour_s (th := th) (sa := 0) (tn := tn) (il := nw) (ef := ef) (bf := bf) hro (fun _ _ => rfl) nr n24 hds hba
      obtain ⟨i0, i1, i2⟩ := hI_at (nw := nw) (ef := ef) (bf := bf) hp hbp er
      rw [f1, bd2_s, nme_s, nI_1]
      have hne : h ≠ tN e0 e1 e2 x0 x1 x2 := fun e => z (key.mpr e)
      exact ih (h + 1) (by omega) m g2 t2 (by omega) (by omega) (by rw [f2 _ (by omega), i0, n0, E0, clN_s e0 h0 _ l0, latN_succ]) (by rw [f2 _ (by omega), i1, n1, E1, clN_s e1 h1 _ l1, latN_succ]) (by rw [f2 _ (by omega), i2, n2, E2, clN_s e2 h2 _ l2, latN_succ]) f3 f4
theorem ps_stays : PS_stays := by
  intro th sa hr il ro ef bf li cn be ho af le sg mo mt bk ds ba ml ms si sn pa mm nw tn hH hP hM a1
  obtain ⟨⟨v1, v2, v3, v4, v5, v6, v7, v8, v9, v10, v11⟩, h1, h2, h3, h4, h5, h6, h7, h8, h9, h10⟩ := hH
  subst h1
  unfold fX7_stays fX8_stays
  rcases there_cases mt a1 with ⟨g1, g2⟩ | ⟨p, hp, rfl, hbp, g1, g2⟩
  · simp only [g1, g2, bd1_s, nme_s, if0, if1, if_true, if_false, Bool.false_eq_true, nI_1]; exact ⟨_, _, _, rfl, rfl⟩
  simp only [g1, g2, bd1_s, nme_s, if0, if1, if_true, if_false, Bool.false_eq_true, nI_1, asNow_s]
  obtain ⟨r, hr, er⟩ := nI_of_toInt (n := 4) (v5 p hp).1 (by have := (v5 p hp).2; omega)
  have er2 : (ro p).toInt.toNat = r := by rw [er, nI_toInt (by omega)]; omega
  obtain ⟨W, hW, hW2⟩ := with_s mt ro (ro p)
  have ht : ∀ q, q < 6 → (if hb W q then bf (6 * q + p) else 0) = tB mt ro bf p q := by
    intro q hq
    rw [hW2 q hq]
    unfold tB
    by_cases e : q = p
    · subst e
      rw [if_neg (show ¬ ((hb mt q && decide (ro q = ro q)) = true ∧ q ≠ q) from fun h => h.2 rfl), show 6 * q + q = 7 * q by omega, v8 q hq]
      simp
    · by_cases c : (hb mt q && decide (ro q = ro p)) = true
      · rw [if_pos c, if_pos ⟨c, e⟩]
      · rw [if_neg c, if_neg (fun h => c h.1)]
  have tr : ∀ q, q < 6 → -3 ≤ (tB mt ro bf p q).toInt ∧ (tB mt ro bf p q).toInt ≤ 3 := by
    intro q hq
    unfold tB
    split
    · exact v7 _ (by omega)
    · decide
  have sr := mS_rng tr 6 (by omega)
  obtain ⟨e0, k0, E0⟩ := to23 (d := ef (3 * r)) (by have := (v6 (3 * r) (by omega)).1; omega) (by have := (v6 (3 * r) (by omega)).2; omega)
  have s1 := sum_rng (v6 (3 * r + 1) (by omega)).1 (v6 (3 * r + 1) (by omega)).2 sr.1 sr.2
  obtain ⟨e1, k1, E1⟩ := to23 s1.1 s1.2
  obtain ⟨e2, k2, E2⟩ := to23 (d := ef (3 * r + 2)) (by have := (v6 (3 * r + 2) (by omega)).1; omega) (by have := (v6 (3 * r + 2) (by omega)).2; omega)
  obtain ⟨x0, y0, X0⟩ := nI_of_toInt (n := 21) (v4 (3 * p) (by omega)).1 (by have := (v4 (3 * p) (by omega)).2; omega)
  obtain ⟨x1, y1, X1⟩ := nI_of_toInt (n := 21) (v4 (3 * p + 1) (by omega)).1 (by have := (v4 (3 * p + 1) (by omega)).2; omega)
  obtain ⟨x2, y2, X2⟩ := nI_of_toInt (n := 21) (v4 (3 * p + 2) (by omega)).1 (by have := (v4 (3 * p + 2) (by omega)).2; omega)
  have hl := lose_s (il := il) hp hr W ht k0 k1 k2 y0 y1 y2 E0 E1 E2 X0 X1 X2
  have cst : fX1_hoursStaying FU mt il ro ef bf (nI p) = some (nI (tN e0 e1 e2 x0 x1 x2)) := by
    unfold fX1_hoursStaying
    rw [ldI_at (j := p) rfl hp (by decide), illsOf_s il hp, bd1_s, sI_n X0 X1 X2]
    unfold tN
    by_cases z : x0 + x1 + x2 = 0
    · rw [if_pos (show nI (x0 + x1 + x2) = 0 by rw [z]; rfl), if_pos z]; rfl
    · rw [if_neg (show ¬ nI (x0 + x1 + x2) = 0 from fun e => z ((nI_eq (b := 0) (by omega) (by decide)).mp e)), if_neg z, hW, bd1_s, er, hl, bd1_s]
  rw [cst, bd1_s, stI_at (i := 24) (j := 24) rfl (by decide) (by decide)]
  have bk' : ∀ k, k < 24 → upd (cp26 bk nw) 24 0 k = bk k := fun k hk => by simp only [upd]; rw [if_neg (by omega), cp26_at bk nw (by omega)]
  obtain ⟨a, b, f1⟩ := mstays_loop hp hbp v5 er2 h6 h7 k0 k1 k2 y0 y1 y2 E0 E1 E2 61 0 rfl FU (upd (cp26 bk nw) 24 0) tn (by decide) (by omega) (by rw [bk' _ (by omega), h2 _ (by omega)]; exact X0) (by rw [bk' _ (by omega), h2 _ (by omega)]; exact X1) (by rw [bk' _ (by omega), h2 _ (by omega)]; exact X2) (fun q hq => by rw [bk' _ (by omega)]; exact h3 q hq) (by simp only [upd]; rfl)
  have f1 : fX8_stays_24 FU (nI p) mt ds ba FU 0 (upd (cp26 bk nw) 24 0) tn = _ := f1
  have rg := tN_rng k0 k1 k2 y0 y1 y2
  rw [f1]
  by_cases c : tN e0 e1 e2 x0 x1 x2 ≤ 60
  · rw [if_pos c, br2_l, if_neg (show ¬ (60 : Int32) < nI (tN e0 e1 e2 x0 x1 x2) from nI_nlt (a := 60) c (by decide))]
    exact ⟨_, _, _, rfl, rfl⟩
  · rw [if_neg c, br2_r, if_pos (show (60 : Int32) < nI (tN e0 e1 e2 x0 x1 x2) from nI_lt (a := 60) (by omega) (by omega))]
    exact ⟨_, _, _, rfl, rfl⟩
