/-! how many tries -/
def ck (v k : Nat) : Int32 := cl (nI v + vk k)
theorem ck_mono : ∀ v : Nat, v < 21 → ∀ k : Nat, k < 11 → ∀ j : Nat, j ≤ k → (ck v j).toInt ≤ (ck v k).toInt := by decide +kernel
/-- how many of the first i fit and leave x -/
def cE (g : Nat → Bool) (c : Nat → Int32) (x : Int32) : Nat → Nat
  | 0 => 0
  | i + 1 => cE g c x i + (if g i = true ∧ c i = x then 1 else 0)
/-- the most of the first i that leave the same as one of the first e -/
def mE (g : Nat → Bool) (c : Nat → Int32) (i : Nat) : Nat → Nat
  | 0 => 0
  | e + 1 => if mE g c i e < (if g e then cE g c (c e) i else 0) then (if g e then cE g c (c e) i else 0) else mE g c i e
section
variable {g : Nat → Bool} {c : Nat → Int32}
theorem cE_le (x : Int32) : ∀ i, cE g c x i ≤ i := by
  intro i
  induction i with
  | zero => exact Nat.le_refl _
  | succ i ih => rw [cE]; split <;> omega
theorem mE_le (i : Nat) : ∀ e, mE g c i e ≤ i := by
  intro e
  induction e with
  | zero => exact Nat.zero_le _
  | succ e ih =>
    have := cE_le (g := g) (c := c) (c e) i
    rw [mE]
    generalize hy : (if g e = true then cE g c (c e) i else 0) = y
    have : y ≤ i := by rw [← hy]; split <;> omega
    split <;> omega
theorem cE_no {i : Nat} (h : g i = false) (x : Int32) : cE g c x (i + 1) = cE g c x i := by rw [cE, if_neg (fun e => by rw [h] at e; cases e.1)]; rfl
theorem cE_yes {i : Nat} (h : g i = true) {x : Int32} (e : c i = x) : cE g c x (i + 1) = cE g c x i + 1 := by rw [cE, if_pos ⟨h, e⟩]
theorem cE_oth {i : Nat} {x : Int32} (e : ¬ c i = x) : cE g c x (i + 1) = cE g c x i := by rw [cE, if_neg (fun h => e h.2)]; rfl
theorem mE_no {i : Nat} (h : g i = false) : ∀ e, mE g c (i + 1) e = mE g c i e := by
  intro e
  induction e with
  | zero => rfl
  | succ e ih => rw [mE, mE, ih, cE_no h]
theorem mE_no' {i : Nat} (h : g i = false) : mE g c (i + 1) (i + 1) = mE g c i i := by
  rw [mE, mE_no h, h, if_neg (by simp)]
theorem mE_yes {i : Nat} (h : g i = true) : ∀ e, mE g c i e ≤ mE g c (i + 1) e ∧ (mE g c (i + 1) e ≤ mE g c i e ∨ mE g c (i + 1) e ≤ cE g c (c i) (i + 1)) := by
  intro e
  induction e with
  | zero => exact ⟨Nat.le_refl _, Or.inl (Nat.le_refl _)⟩
  | succ e ih =>
    rw [mE, mE]
    cases hg : g e
    · simp only [Bool.false_eq_true, if_false, Nat.not_lt_zero]; exact ih
    · simp only [if_true]
      by_cases q : c i = c e
      · have e1 := cE_yes (c := c) h q
        rw [q] at ih ⊢
        generalize cE g c (c e) (i + 1) = a at *
        generalize cE g c (c e) i = b at *
        constructor <;> (repeat' split) <;> omega
      · rw [cE_oth q]
        generalize cE g c (c e) i = b at *
        constructor <;> (repeat' split) <;> omega
theorem mE_yes' {i : Nat} (h : g i = true) : mE g c (i + 1) (i + 1) = if mE g c i i < cE g c (c i) (i + 1) then cE g c (c i) (i + 1) else mE g c i i := by
  have := mE_yes (c := c) h i
  rw [mE, h]
  simp only [if_true]
  (repeat' split) <;> omega
theorem cE_zero {x : Int32} : ∀ i, (∀ j, j < i → g j = true → ¬ c j = x) → cE g c x i = 0 := by
  intro i
  induction i with
  | zero => intro _; rfl
  | succ i ih =>
    intro h
    rw [cE, ih (fun j hj => h j (by omega)), if_neg (fun e => h i (by omega) e.1 e.2)]
theorem cmost_loop {R v : Int32} (hR : ∀ q, q < 11 → hb R q = g q) (hc : ∀ k, cl (v + vk k) = c k) (hm : ∀ k, k < 11 → ∀ j, j ≤ k → (c j).toInt ≤ (c k).toInt) : ∀ (d i : Nat), i + d = 11 → ∀ (fuel : Nat) (last : Int32), d < fuel → (∀ j, j < i → g j = true → (c j).toInt ≤ last.toInt) → (∀ k, i ≤ k → k < 11 → last.toInt ≤ (c k).toInt) → fX7_mostLeft_11 R v fuel (nI (mE g c i i)) (nI (cE g c last i)) last (vk i) = some (nI (mE g c 11 11)) := by
  intro d
  induction d with
  | zero =>
    intro i hi fuel last hf l1 l2
    obtain ⟨m, rfl⟩ : ∃ m, fuel = m + 1 := ⟨fuel - 1, by omega⟩
    obtain rfl : i = 11 := by omega
    rw [fX7_mostLeft_11, if_pos vk_end.1]
  | succ d ih =>
    intro i hi fuel last hf l1 l2
    obtain ⟨m, rfl⟩ : ∃ m, fuel = m + 1 := ⟨fuel - 1, by omega⟩
    have hi11 : i < 11 := by omega
    rw [fX7_mostLeft_11, if_neg (vk_in i hi11).1, vk_5, within_s, hc]
    cases hg : g i
    · rw [bit01_0 ((hR i hi11).trans hg), if_neg (by decide), bd3_s, nme_s, vk_1, ← mE_no' (c := c) hg, ← cE_no (c := c) hg last]
      refine ih (i + 1) (by omega) m last (by omega) (fun j hj gj => ?_) (fun k h1 h2 => l2 k (by omega) h2)
      by_cases e : j = i
      · subst e; rw [hg] at gj; cases gj
      · exact l1 j (by omega) gj
    · rw [bit01_1 ((hR i hi11).trans hg), if_pos rfl, bd1_s]
      have key : (if c i = last then some (nI (cE g c last i) + 1) else some (1 : Int32)) = some (nI (cE g c (c i) (i + 1))) := by
        rw [cE_yes hg rfl]
        by_cases e : c i = last
        · rw [if_pos e, nI_1, e]
        · rw [if_neg e, cE_zero i (fun j hj gj ej => e (Int32.toInt_inj.mp (by
            have a1 := l1 j hj gj
            have a2 := l2 i (by omega) hi11
            rw [ej] at a1; omega)))]; rfl
      rw [key, bd1_s, nme_s]
      have mx : (if nI (mE g c i i) < nI (cE g c (c i) (i + 1)) then nI (cE g c (c i) (i + 1)) else nI (mE g c i i)) = nI (mE g c (i + 1) (i + 1)) := by
        have b1 := mE_le (g := g) (c := c) i i
        have b2 := cE_le (g := g) (c := c) (c i) (i + 1)
        rw [mE_yes' hg]
        by_cases q : mE g c i i < cE g c (c i) (i + 1)
        · rw [if_pos q, if_pos (nI_lt q (by omega))]
        · rw [if_neg q, if_neg (nI_nlt (by omega) (by omega))]
      rw [mx, bd3_s, nme_s, vk_1]
      exact ih (i + 1) (by omega) m (c i) (by omega) (fun j hj _ => hm i hi11 j (by omega)) (fun k h1 h2 => hm k h2 i (by omega))
theorem m49_loop {si : Nat → Int32} {n : Nat} {v : Int32} (hf : ∀ k, fX8_fits FU (nI n) si (vk k) = some (if g k then 1 else 0)) (hc : ∀ k, cl (v + vk k) = c k) {e : Nat} (he : e < 11) : ∀ (d i : Nat), i + d = 11 → ∀ (fuel : Nat), d < fuel → fX8_tries_49 FU (nI n) si (vk e) v fuel (nI (if g e then cE g c (c e) i else 0)) (vk i) = some (nI (if g e then cE g c (c e) 11 else 0)) := by
  intro d
  induction d with
  | zero =>
    intro i hi fuel hf'
    obtain ⟨m, rfl⟩ : ∃ m, fuel = m + 1 := ⟨fuel - 1, by omega⟩
    obtain rfl : i = 11 := by omega
    rw [fX8_tries_49, if_pos vk_end.2]
  | succ d ih =>
    intro i hi fuel hf'
    obtain ⟨m, rfl⟩ : ∃ m, fuel = m + 1 := ⟨fuel - 1, by omega⟩
    have hi11 : i < 11 := by omega
    have nx := ih (i + 1) (by omega) m (by omega)
    rw [fX8_tries_49, if_neg (vk_in i hi11).2, hf, hf, clip_s, clip_s, hc, hc, vk_1]
    cases hge : g e
    · rw [hge] at nx
      simp only [bd1_s, nme_s, if0, if1, if_true, if_false, Bool.false_eq_true, nI_1, Int32.add_zero] at nx ⊢
      exact nx
    · rw [hge] at nx
      simp only [bd1_s, nme_s, if0, if1, if_true, if_false, Bool.false_eq_true, nI_1] at nx ⊢
      cases hgi : g i
      · rw [cE_no hgi] at nx
        simp only [bd1_s, nme_s, if0, if1, if_true, if_false, Bool.false_eq_true, nI_1, Int32.add_zero]
        exact nx
      · by_cases q : c e = c i
        · rw [cE_yes hgi q.symm] at nx
          simp only [if_pos q, bd1_s, nme_s, if0, if1, if_true, if_false, Bool.false_eq_true, nI_1]
          exact nx
        · rw [cE_oth (fun h => q h.symm)] at nx
          simp only [if_neg q, bd1_s, nme_s, if0, if1, if_true, if_false, Bool.false_eq_true, nI_1, Int32.add_zero]
          exact nx
theorem m35_loop {si : Nat → Int32} {n : Nat} {v : Int32} (hf : ∀ k, fX8_fits FU (nI n) si (vk k) = some (if g k then 1 else 0)) (hc : ∀ k, cl (v + vk k) = c k) : ∀ (d i : Nat), i + d = 11 → ∀ (fuel : Nat), d < fuel → fX8_tries_35 FU (nI n) si v fuel (nI (mE g c 11 i)) (vk i) = some (nI (mE g c 11 11)) := by
  intro d
  induction d with
  | zero =>
    intro i hi fuel hf'
    obtain ⟨m, rfl⟩ : ∃ m, fuel = m + 1 := ⟨fuel - 1, by omega⟩
    obtain rfl : i = 11 := by omega
    rw [fX8_tries_35, if_pos vk_end.2]
  | succ d ih =>
    intro i hi fuel hf'
    obtain ⟨m, rfl⟩ : ∃ m, fuel = m + 1 := ⟨fuel - 1, by omega⟩
    have hi11 : i < 11 := by omega
    have nx := ih (i + 1) (by omega) m (by omega)
    have e0 := m49_loop hf hc hi11 11 0 rfl FU (by decide)
    have z : nI (if g i then cE g c (c i) 0 else 0) = 0 := by split <;> rfl
    rw [z] at e0
    rw [fX8_tries_35, if_neg (vk_in i hi11).2, show fX8_tries_49 FU (nI n) si (vk i) v FU 0 (-5) = _ from e0, bd1_s, vk_1]
    rw [mE] at nx
    have b1 := mE_le (g := g) (c := c) 11 i
    have b2 := cE_le (g := g) (c := c) (c i) 11
    generalize hy : (if g i = true then cE g c (c i) 11 else 0) = y at *
    have hy11 : y ≤ 11 := by rw [← hy]; split <;> omega
    by_cases q : mE g c 11 i < y
    · rw [if_pos q] at nx
      rw [if_neg (nI_ge q (by omega)), bd1_s, nme_s]; exact nx
    · rw [if_neg q] at nx
      rw [if_pos (nI_le (by omega) (by omega)), bd1_s, nme_s]; exact nx
end
theorem mE_pos {g : Nat → Bool} {c : Nat → Int32} {q : Nat} (hq : q < 11) (hg : g q = true) : 0 < mE g c 11 11 := by
  have h1 : ∀ i, q < i → 0 < cE g c (c q) i := by
    intro i
    induction i with
    | zero => intro h; omega
    | succ i ih =>
      intro h
      by_cases e : q = i
      · subst e; rw [cE_yes hg rfl]; omega
      · have := ih (by omega); rw [cE]; omega
  have h2 : ∀ e, q < e → 0 < mE g c 11 e := by
    intro e
    induction e with
    | zero => intro h; omega
    | succ e ih =>
      intro h
      rw [mE]
      by_cases k : q = e
      · subst k; rw [hg]; simp only [if_true]; have := h1 11 hq; split <;> omega
      · have := ih (by omega)
        generalize (if g e = true then cE g c (c e) 11 else 0) = y
        split <;> omega
  exact h2 11 hq
theorem mE_none {g : Nat → Bool} {c : Nat → Int32} (hg : ∀ q, q < 11 → g q = false) : mE g c 11 11 = 0 := by
  have h2 : ∀ e, e ≤ 11 → mE g c 11 e = 0 := by
    intro e
    induction e with
    | zero => intro _; rfl
    | succ e ih => intro h; rw [mE, ih (by omega), hg e (by omega)]; rfl
  exact h2 11 (by decide)
theorem mrow_s {g : Nat → Bool} {R : Int32} {si : Nat → Int32} {n v : Nat} (hR : ∀ q, q < 11 → hb R q = g q) (hf : ∀ k, fX8_fits FU (nI n) si (vk k) = some (if g k then 1 else 0)) (hv : v < 21) : fX7_mostLeft FU (nI v) R = some (nI (mE g (ck v) 11 11)) ∧ fX8_tries_35 FU (nI n) si (nI v) FU 0 (-5) = some (nI (mE g (ck v) 11 11)) := by
  have hc : ∀ k, cl (nI v + vk k) = ck v k := fun _ => rfl
  refine ⟨?_, m35_loop hf hc 11 0 rfl FU (by decide)⟩
  unfold fX7_mostLeft
  rw [show fX7_mostLeft_11 R (nI v) FU 0 0 (-1) (-5) = _ from cmost_loop hR hc (ck_mono v hv) 11 0 rfl FU (-1) (by decide) (fun j hj => by omega) (fun k _ _ => by
    have := (cl_rng (nI v + vk k)).1
    have z : (-1 : Int32).toInt = -1 := by decide
    rw [z]; unfold ck; omega), bd1_s]
theorem tries_loop {g : Nat → Bool} {R : Int32} {si : Nat → Int32} {n : Nat} (hR : ∀ q, q < 11 → hb R q = g q) (hf : ∀ k, fX8_fits FU (nI n) si (vk k) = some (if g k then 1 else 0)) {q : Nat} (hq : q < 11) (hg : g q = true) : ∀ (d i : Nat), i + d = 21 → ∀ (fc fm : Nat) (a b : Int32), d < fc → d < fm → 0 ≤ a.toInt → ∃ r s, fX7_tries_41 FU R fc a b (nI i) = some (r, s) ∧ fX8_tries_21 FU (nI n) si fm a b (nI i) = some (r, s) ∧ 0 ≤ r.toInt := by
  intro d
  induction d with
  | zero =>
    intro i hi fc fm a b hf' hf2 ha
    obtain ⟨fc, rfl⟩ : ∃ m, fc = m + 1 := ⟨fc - 1, by omega⟩
    obtain ⟨fm, rfl⟩ : ∃ m, fm = m + 1 := ⟨fm - 1, by omega⟩
    rw [fX7_tries_41, fX8_tries_21, if_pos (show (20 : Int32) < nI i from nI_lt (a := 20) (by omega) (by omega)), if_pos (show (21 : Int32) ≤ nI i from nI_le (a := 21) (by omega) (by omega))]
    exact ⟨_, _, rfl, rfl, ha⟩
  | succ d ih =>
    intro i hi fc fm a b hf' hf2 ha
    obtain ⟨fc, rfl⟩ : ∃ m, fc = m + 1 := ⟨fc - 1, by omega⟩
    obtain ⟨fm, rfl⟩ : ∃ m, fm = m + 1 := ⟨fm - 1, by omega⟩
    obtain ⟨e1, e2⟩ := mrow_s hR hf (show i < 21 by omega)
    have hp := mE_pos (c := ck i) hq hg
    have hb11 := mE_le (g := g) (c := ck i) 11 11
    rw [fX7_tries_41, fX8_tries_21, if_neg (show ¬ (20 : Int32) < nI i from nI_nlt (a := 20) (by omega) (by decide)), if_neg (show ¬ (21 : Int32) ≤ nI i from nI_ge (b := 21) (by omega) (by decide)), e1, e2, bd1_s, bd1_s, if_neg (show ¬ nI (mE g (ck i) 11 11) ≤ 0 from nI_ge (b := mE g (ck i) 11 11) (a := 0) hp (by omega))]
    by_cases k : b ≤ nI (mE g (ck i) 11 11)
    · simp only [if_pos k, bd1_s, nme_s, if0, if1, if_true, if_false, Bool.false_eq_true, nI_1, bd2_s]
      exact ih (i + 1) (by omega) fc fm _ _ (by omega) (by omega) ha
    · simp only [if_neg k, bd1_s, nme_s, if0, if1, if_true, if_false, Bool.false_eq_true, nI_1, bd2_s]
      exact ih (i + 1) (by omega) fc fm _ _ (by omega) (by omega) (by rw [nI_toInt (by omega)]; omega)
theorem mtries_none {g : Nat → Bool} {si : Nat → Int32} {n : Nat} (hf : ∀ k, fX8_fits FU (nI n) si (vk k) = some (if g k then 1 else 0)) (hg : ∀ q, q < 11 → g q = false) : ∀ (d i : Nat), i + d = 21 → ∀ (fuel : Nat) (a b : Int32), d < fuel → fX8_tries_21 FU (nI n) si fuel a b (nI i) = some (a, b) := by
  intro d
  induction d with
  | zero =>
    intro i hi fuel a b hf'
    obtain ⟨m, rfl⟩ : ∃ m, fuel = m + 1 := ⟨fuel - 1, by omega⟩
    rw [fX8_tries_21, if_pos (show (21 : Int32) ≤ nI i from nI_le (a := 21) (by omega) (by omega))]
  | succ d ih =>
    intro i hi fuel a b hf'
    obtain ⟨m, rfl⟩ : ∃ m, fuel = m + 1 := ⟨fuel - 1, by omega⟩
    have hc : ∀ k, cl (nI i + vk k) = ck i k := fun _ => rfl
    have e2 := m35_loop hf hc 11 0 rfl FU (by decide)
    rw [mE_none hg] at e2
    rw [fX8_tries_21, if_neg (show ¬ (21 : Int32) ≤ nI i from nI_ge (b := 21) (by omega) (by decide)), show fX8_tries_35 FU (nI n) si (nI i) FU 0 (-5) = _ from e2, bd1_s, if_pos (show nI 0 ≤ 0 by decide)]
    simp only [bd1_s, nme_s, if0, if1, if_true, if_false, Bool.false_eq_true, nI_1]
    exact ih (i + 1) (by omega) m a b (by omega)
theorem pcB_z : ∀ t : Nat, t < 2048 → pcB t = 0 → t = 0 := by decide +kernel
theorem cnG_none {g : Nat → Bool} : ∀ d i, i + d = 11 → (∀ q, q < 11 → g q = false) → cnG g d i = 0 := by
  intro d
  induction d with
  | zero => intro i _ _; rfl
  | succ d ih => intro i hi h; rw [cnG, h i (by omega), ih (i + 1) (by omega) h]; rfl
theorem ps_tries : PS_tries := by
  intro th sa hr il ro ef bf li cn be ho af le sg mo mt bk ds ba ml ms si sn pa mm hH hP hM a1
  obtain ⟨⟨v1, v2, v3, v4, v5, v6, v7, v8, v9, v10, v11⟩, h1, h2, h3, h4, h5, h6, h7, h8, h9, h10⟩ := hH
  subst h9
  obtain ⟨n, hn, rfl⟩ := nI_of_toInt (n := 9) (x := ms) v10.1 (by have := v10.2; omega)
  have hv : ∀ i, i < 8 → 0 ≤ (ho i).toInt ∧ (ho i).toInt ≤ 9 := fun i hi => (v11 i hi).2.1
  have hf := fits_s hv h10 (show n ≤ 8 by omega)
  obtain ⟨g, hg⟩ : ∃ g : Nat → Bool, ∀ k, fB be ho af (vk k) n 0 = g k := ⟨_, fun _ => rfl⟩
  obtain ⟨t, f1, f2, f3, f4⟩ := fitting_s (g := g) (fun k _ => by rw [← hg]; exact (hf (vk k)).1)
  have hfm : ∀ k, fX8_fits FU (nI n) si (vk k) = some (if g k then 1 else 0) := fun k => by rw [← hg]; exact (hf (vk k)).2
  unfold fX7_tries fX8_tries
  rw [among_in (m := 1) (by decide)]
  rcases in_cases a1 0 1 with ⟨e, -⟩ | ⟨e, -, -⟩
  · rw [e]; simp only [bd1_s, nme_s, if0, if1, if_true, if_false, Bool.false_eq_true, nI_1]; exact ⟨_, rfl, rfl⟩
  rw [e, f2]
  simp only [bd1_s, nme_s, if0, if1, if_true, if_false, Bool.false_eq_true, nI_1]
  by_cases hall : ∀ q, q < 11 → g q = false
  · rw [cnG_none 11 0 rfl hall] at f3
    obtain rfl := pcB_z t f1 f3
    rw [if_pos (show nI 0 = 0 from rfl), show fX8_tries_21 FU (nI n) si FU (-6) 1000000 0 = _ from mtries_none hfm hall 21 0 rfl FU (-6) 1000000 (by decide), bd2_s, if_pos (by decide)]
    exact ⟨_, rfl, rfl⟩
  · obtain ⟨q, hq, hgq⟩ : ∃ q, q < 11 ∧ g q = true := by
      apply Classical.byContradiction
      intro hn'
      apply hall
      intro q hq
      cases h : g q
      · rfl
      · exact absurd ⟨q, hq, h⟩ hn'
    have htz : ¬ nI t = 0 := fun e => by
      have := f4 q hq
      rw [e, hgq] at this
      rw [show (0 : Int32) = nI 0 from rfl, hbz11 q hq] at this; cases this
    obtain ⟨e1, e2⟩ := mrow_s (v := 0) f4 hfm (by decide)
    have hp := mE_pos (c := ck 0) hq hgq
    have hb11 := mE_le (g := g) (c := ck 0) 11 11
    obtain ⟨r, s, g1, g2, g3⟩ := tries_loop f4 hfm hq hgq 20 1 rfl FU 8191 0 (nI (mE g (ck 0) 11 11)) (by decide) (by decide) (by decide)
    rw [if_neg htz, show fX7_mostLeft FU 0 (nI t) = _ from e1, bd1_s, show fX7_tries_41 FU (nI t) FU 0 (nI (mE g (ck 0) 11 11)) 1 = _ from g1, bd2_s]
    have hz : ¬ nI (mE g (ck 0) 11 11) ≤ 0 := nI_ge (b := mE g (ck 0) 11 11) (a := 0) hp (by omega)
    have hF : ¬ (1000000 : Int32) ≤ nI (mE g (ck 0) 11 11) := nI_ge (b := 1000000) (by omega) (by decide)
    show ∃ x, _ ∧ bd2 (fX8_tries_21 FU (nI n) si (8191 + 1) (-6) 1000000 0) _ = _
    rw [fX8_tries_21, if_neg (show ¬ (21 : Int32) ≤ 0 by decide), show fX8_tries_35 FU (nI n) si 0 FU 0 (-5) = _ from e2, bd1_s, if_neg hz, if_neg hF]
    simp only [bd1_s, if1, nme_s]
    rw [show fX8_tries_21 FU (nI n) si 8191 0 (nI (mE g (ck 0) 11 11)) (0 + 1) = _ from g2, bd2_s, if_neg (nlt0 g3)]
    by_cases k : a1 = 0
    · rw [if_pos k]; exact ⟨_, rfl, rfl⟩
    · rw [if_neg k]; exact ⟨_, rfl, rfl⟩
