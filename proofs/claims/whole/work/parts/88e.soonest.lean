theorem a146_0 {th num b h : Int32} {ds ba : Nat → Int32} {a : Int32} {nw tn : Nat → Int32} {fuel : Nat} (hf : 0 < fuel) : fX8_all_146 FU 0 th num ds ba fuel a b h nw tn = some (a, b, nw, tn) := by
  obtain ⟨m, rfl⟩ : ∃ m, fuel = m + 1 := ⟨fuel - 1, by omega⟩
  rw [fX8_all_146]
  split
  · rfl
  · split
    · rfl
    · rw [if_pos rfl]
theorem dgF_lt {H : Nat → Bool} {ρ : Nat → Nat} (hρ : ∀ q, ρ q < 4) : ∀ k, dgF H ρ k < 10 ^ k := by
  intro k
  induction k with
  | zero => rw [dgF]; decide
  | succ k ih =>
    have h := hρ k
    rw [dgF, Nat.pow_succ]
    split <;> omega
/-- what the reference holds, and the best way so far -/
def rlA (a b : Int32) (s : Nat × Nat) : Prop := s.2 < 1000000 ∧ ((s.1 ≤ 20 ∧ a = nI s.2 ∧ b = nI s.1) ∨ (s.1 = 1000 ∧ a = -6 ∧ b = nI 1000000))
theorem a21_loop {th : Int32} {il ef bf bk ds ba : Nat → Int32} (v4 : ∀ k, k < 18 → 0 ≤ (il k).toInt ∧ (il k).toInt ≤ 20) (v6 : ∀ k, k < 12 → -5 ≤ (ef k).toInt ∧ (ef k).toInt ≤ 5) (v7 : ∀ k, k < 36 → -3 ≤ (bf k).toInt ∧ (bf k).toInt ≤ 3) (v8 : ∀ k, k < 6 → bf (7 * k) = 0) (h2 : ∀ k, k < 18 → bk k = il k) (h6 : ∀ k, k < 12 → ds k = ef k) (h7 : ∀ k, k < 36 → ba k = bf k) : ∀ (d c : Nat), c + d = 4096 → ∀ (fuel : Nat) (a b : Int32) (nw tn : Nat → Int32) (s : Nat × Nat), d < fuel → rlA a b s → ∃ a2 b2 n2 t2, fX8_all_21 FU bk th ds ba fuel a b (nI c) nw tn = some (a2, b2, n2, t2) ∧ rlA a2 b2 (foldR (stC (hb th) (nF (hb th) il ef bf) (fun ρ => dgF (hb th) ρ 6)) d c s) := by
  intro d
  induction d with
  | zero =>
    intro c hc fuel a b nw tn s hf hr
    obtain ⟨m, rfl⟩ : ∃ m, fuel = m + 1 := ⟨fuel - 1, by omega⟩
    obtain rfl : c = 4096 := by omega
    rw [fX8_all_21, if_pos (show (4096 : Int32) ≤ nI 4096 by decide), foldR]
    exact ⟨_, _, _, _, rfl, hr⟩
  | succ d ih =>
    intro c hc fuel a b nw tn s hf hr
    obtain ⟨m, rfl⟩ : ∃ m, fuel = m + 1 := ⟨fuel - 1, by omega⟩
    have c4 : ∀ q, rmC c q < 4 := rmC_lt c
    obtain ⟨g2, f1, f2, f3, f4⟩ := a50_loop (th := th) (c := c) (by omega) 6 0 rfl FU (upd (cp26 bk nw) 24 0) (by decide) (fun q hq => by omega)
    have g18 : ∀ k, k < 18 → g2 k = il k := fun k hk => by rw [f3 k hk]; simp only [upd]; rw [if_neg (by omega), cp26_at bk nw (by omega), h2 k hk]
    have g24 : g2 24 = 0 := by rw [f4]; simp only [upd]; rfl
    have inv : ∀ p, p < 6 → hb th p = true → g2 (3 * p) = nI (latN (eN (ef (3 * rmC c p))) 0 (xN (il (3 * p)))) ∧ g2 (3 * p + 1) = nI (latN (eN (ef (3 * rmC c p + 1) + mS (tS bf (fun q => hb th q && decide (rmC c q = rmC c p)) p) 6)) 0 (xN (il (3 * p + 1)))) ∧ g2 (3 * p + 2) = nI (latN (eN (ef (3 * rmC c p + 2))) 0 (xN (il (3 * p + 2)))) := by
      intro p hp _
      rw [latN, latN, latN, g18 _ (by omega), g18 _ (by omega), g18 _ (by omega)]
      exact ⟨(xN_s (v4 _ (by omega)).1 (v4 _ (by omega)).2).2, (xN_s (v4 _ (by omega)).1 (v4 _ (by omega)).2).2, (xN_s (v4 _ (by omega)).1 (v4 _ (by omega)).2).2⟩
    have step : ∃ a3 b3 n3 t3, fX8_all_146 FU (if okp (hb th) (rmC c) 6 = true then 1 else 0) th (nI (dgF (hb th) (rmC c) 6)) ds ba FU a b 0 g2 tn = some (a3, b3, n3, t3) ∧ rlA a3 b3 (stC (hb th) (nF (hb th) il ef bf) (fun ρ => dgF (hb th) ρ 6) c s) := by
      unfold stC
      cases okp (hb th) (rmC c) 6
      · simp only [Bool.false_eq_true, if_false]
        exact ⟨_, _, _, _, a146_0 (by decide), hr⟩
      · simp only [if_true]
        have rg := nF_rng (H := hb th) (il := il) (ef := ef) (bf := bf) (ρ := rmC c) (fun q _ _ => c4 q) v4 v6 v7
        have dl : dgF (hb th) (rmC c) 6 < 1000000 := dgF_lt c4 6
        have lp := fun (B : Nat) (a : Int32) (hB : B < 2 ^ 31) => a146_loop (num := nI (dgF (hb th) (rmC c) 6)) (fun q _ => c4 q) v4 v6 v7 v8 h6 h7 21 0 rfl FU B a g2 tn (by decide) hB (Nat.zero_le _) inv f2 g24
        unfold leafS
        obtain ⟨hm, ⟨r1, rfl, rfl⟩ | ⟨r1, rfl, rfl⟩⟩ := hr
        · obtain ⟨n3, t3, e3⟩ := lp s.1 (nI s.2) (by omega)
          refine ⟨_, _, n3, t3, e3, ?_⟩
          by_cases k : s.1 ≤ nF (hb th) il ef bf (rmC c)
          · rw [if_pos k, if_neg (by omega), if_neg (by omega)]; exact ⟨hm, Or.inl ⟨r1, rfl, rfl⟩⟩
          · rw [if_neg k, if_pos (by omega), if_pos (by omega)]; exact ⟨dl, Or.inl ⟨by show nF (hb th) il ef bf (rmC c) ≤ 20; omega, rfl, rfl⟩⟩
        · obtain ⟨n3, t3, e3⟩ := lp 1000000 (-6) (by decide)
          refine ⟨_, _, n3, t3, e3, ?_⟩
          by_cases k : s.1 ≤ nF (hb th) il ef bf (rmC c)
          · rw [if_pos k, if_neg (by omega), if_neg (by omega)]; exact ⟨hm, Or.inr ⟨r1, rfl, rfl⟩⟩
          · rw [if_neg k, if_pos (by omega), if_pos (by omega)]; exact ⟨dl, Or.inl ⟨by show nF (hb th) il ef bf (rmC c) ≤ 20; omega, rfl, rfl⟩⟩
    obtain ⟨a3, b3, n3, t3, e1, e2⟩ := step
    rw [fX8_all_21, if_neg (show ¬ (4096 : Int32) ≤ nI c from nI_ge (b := 4096) (by omega) (by decide)), asNow_s, bd1_s, stI_at (i := 24) (j := 24) rfl (by decide) (by decide), show fX8_all_50 (nI c) th FU 1 0 0 (upd (cp26 bk nw) 24 0) = _ from f1, bd3_s, e1, bd4_s, nme_s, nI_1, foldR]
    exact ih (c + 1) (by omega) m a3 b3 n3 t3 _ (by omega) e2
theorem ps_soonest : PS_all := by
  intro th sa hr il ro ef bf li cn be ho af le sg mo mt bk ds ba ml ms si sn pa mm ph pn pd nw tn hH hP hM a1
  obtain ⟨⟨v1, v2, v3, v4, v5, v6, v7, v8, v9, v10, v11⟩, h1, h2, h3, h4, h5, h6, h7, h8, h9, h10⟩ := hH
  subst h1
  unfold fX7_all fX8_all
  rw [among_in (m := 1) (by decide)]
  rcases in_cases a1 0 1 with ⟨e, -⟩ | ⟨e, b1, b2⟩
  · rw [e]; simp only [bd1_s, nme_s, if0, if1, if_true, if_false, Bool.false_eq_true, nI_1]; exact ⟨_, _, _, _, _, _, rfl, rfl⟩
  rw [e]
  simp only [bd1_s, nme_s, if0, if1, if_true, if_false, Bool.false_eq_true, nI_1]
  obtain ⟨nd, g1, g2⟩ := needs_s (il := il) (ef := ef) (bf := bf) v1.1 v1.2 v4 v6 v7 pd
  have pf := pf_s (th := mt) (nd := nd) (Nf := nF (hb mt) il ef bf) (fun ρ v3 hρ hv => ⟨way_s v4 v6 v7 g2 hρ hv, by have := nF_rng (H := hb mt) (il := il) (ef := ef) (bf := bf) hρ v4 v6 v7; omega⟩) 6 0 rfl 8 (fun _ => 0) 0 1000 0 (by decide) (by decide) (fun q hq => by omega) (fun r hr q hq => by rw [b_0, decide_eq_false (by omega), Bool.false_and, Bool.false_and])
  obtain ⟨a2, c2, n2, t2, f1, f2⟩ := a21_loop (th := mt) v4 v6 v7 v8 h2 h6 h7 4096 0 rfl FU (-6) (nI 1000000) nw tn (1000, 0) (by decide) ⟨by decide, Or.inr ⟨rfl, rfl, rfl⟩⟩
  have bl := block (H := hb mt) (Nf := nF (hb mt) il ef bf) (Df := fun ρ => dgF (hb mt) ρ 6) (fun _ _ h => nF_congr h) (fun _ _ h => dgF_congr 6 h) 6 0 rfl 0 (fun _ => 0) (1000, 0) (fun c hc q hq => by omega)
  rw [okp, if_pos rfl, Nat.mul_zero, show (4 : Nat) ^ 6 = 4096 from rfl] at bl
  rw [bl] at f2
  generalize plF (hb mt) (nF (hb mt) il ef bf) (fun ρ => dgF (hb mt) ρ 6) 6 0 (fun _ => 0) (1000, 0) = s at pf f2
  unfold fX3_findSoonest
  rw [g1, bd1_s, show fX3_placeFrom FU 8 1000 0 nd mt 0 0 0 = _ from pf, bd2_s, bd3_s, show fX8_all_21 FU bk mt ds ba FU (-6) 1000000 0 nw tn = _ from f1, bd4_s]
  have z0 : (0 : Int32).toInt = 0 := by decide
  have z1 : (1 : Int32).toInt = 1 := by decide
  obtain ⟨hm, ⟨r1, rfl, rfl⟩ | ⟨r1, rfl, rfl⟩⟩ := f2
  · rw [if_pos (show nI s.1 ≤ 20 from nI_le (b := 20) r1 (by decide)), if_neg (nI_pos (n := s.2) (by omega))]
    by_cases k : a1 = 0
    · rw [if_pos k, if_neg (show ¬ a1 = 1 by rw [k]; decide)]
      exact ⟨_, _, _, _, _, _, rfl, rfl⟩
    · have hne : a1.toInt ≠ 0 := fun q => k (Int32.toInt_inj.mp (by rw [q, z0]))
      have k1 : a1 = 1 := Int32.toInt_inj.mp (by rw [z1]; omega)
      rw [if_neg k, if_pos k1]
      exact ⟨_, _, _, _, _, _, rfl, rfl⟩
  · rw [if_neg (show ¬ nI s.1 ≤ 20 by rw [r1]; decide), if_pos (show (-6 : Int32) < 0 by decide)]
    exact ⟨_, _, _, _, _, _, rfl, rfl⟩
