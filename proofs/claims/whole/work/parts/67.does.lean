/-! what the room does, from what was seen -/
def vk (k : Nat) : Int32 := nI k - 5
theorem vk_5 (k : Nat) : vk k + 5 = nI k := by unfold vk; exact Int32.sub_add_cancel _ _
theorem vk_1 (k : Nat) : vk k + 1 = vk (k + 1) := by
  unfold vk; rw [nI_succ k]; simp only [Int32.sub_eq_add_neg]; ac_rfl
theorem vk_end : (5 : Int32) < vk 11 ∧ (6 : Int32) ≤ vk 11 := by decide
theorem vk_in : ∀ k : Nat, k < 11 → ¬ (5 : Int32) < vk k ∧ ¬ (6 : Int32) ≤ vk k := by decide
def lat (v : Int32) : Nat → Int32 → Int32
  | 0, x => x
  | n + 1, x => lat v n (cl (x + v))
theorem later_loop (v : Int32) {h : Nat} (hh : h ≤ 9) : ∀ (d i : Nat), i + d = h → ∀ (fuel : Nat) (w : Int32), d < fuel → fX5_laterIll_5 (nI h) v fuel w (nI i) = some (lat v d w) := by
  intro d
  induction d with
  | zero =>
    intro i hi fuel w hf
    obtain ⟨m, rfl⟩ : ∃ m, fuel = m + 1 := ⟨fuel - 1, by omega⟩
    rw [fX5_laterIll_5, if_pos (nI_le (by omega) (by omega))]; rfl
  | succ d ih =>
    intro i hi fuel w hf
    obtain ⟨m, rfl⟩ : ∃ m, fuel = m + 1 := ⟨fuel - 1, by omega⟩
    rw [fX5_laterIll_5, if_neg (nI_ge (by omega) (by omega)), within_s, bd1_s, nme_s, nI_1, ih (i + 1) (by omega) m _ (by omega)]; rfl
theorem mlater_loop (v : Int32) {si : Nat → Int32} {h j : Nat} (hj : j < 8) (hs : si (3 * j + 1) = nI h) (hh : h ≤ 9) : ∀ (d i : Nat), i + d = h → ∀ (fuel : Nat) (w : Int32), d < fuel → fX8_fits_25 si (nI j) v fuel w (nI i) = some (lat v d w) := by
  intro d
  induction d with
  | zero =>
    intro i hi fuel w hf
    obtain ⟨m, rfl⟩ : ∃ m, fuel = m + 1 := ⟨fuel - 1, by omega⟩
    rw [fX8_fits_25, ldI_at (iy31 j) (by omega) (by decide), hs, if_pos (nI_le (by omega) (by omega))]; rfl
  | succ d ih =>
    intro i hi fuel w hf
    obtain ⟨m, rfl⟩ : ∃ m, fuel = m + 1 := ⟨fuel - 1, by omega⟩
    rw [fX8_fits_25, ldI_at (iy31 j) (by omega) (by decide), hs, if_neg (nI_ge (by omega) (by omega)), clip_s, bd1_s, nme_s, nI_1, ih (i + 1) (by omega) m _ (by omega)]; rfl
def fB (be ho af : Nat → Int32) (v : Int32) : Nat → Nat → Bool
  | 0, _ => true
  | d + 1, i => decide (lat v (ho i).toInt.toNat (be i) = af i) && fB be ho af v d (i + 1)
theorem cfits_loop {be ho af : Nat → Int32} (hv : ∀ i, i < 8 → 0 ≤ (ho i).toInt ∧ (ho i).toInt ≤ 9) (v : Int32) {n : Nat} (hn : n ≤ 8) : ∀ (d i : Nat), i + d = n → ∀ (fuel : Nat), d < fuel → fX5_fits_2 FU (nI n) be ho v af fuel (nI i) = some (if fB be ho af v d i then Sum.inr () else Sum.inl 0) := by
  intro d
  induction d with
  | zero =>
    intro i hi fuel hf
    obtain ⟨m, rfl⟩ : ∃ m, fuel = m + 1 := ⟨fuel - 1, by omega⟩
    rw [fX5_fits_2, if_pos (nI_le (by omega) (by omega))]; rfl
  | succ d ih =>
    intro i hi fuel hf
    obtain ⟨m, rfl⟩ : ∃ m, fuel = m + 1 := ⟨fuel - 1, by omega⟩
    have hi8 : i < 8 := by omega
    obtain ⟨h, hh, eh⟩ := nI_of_toInt (n := 10) (hv i hi8).1 (by have := (hv i hi8).2; omega)
    have et : (ho i).toInt.toNat = h := by rw [eh, nI_toInt (by omega)]; rfl
    rw [fX5_fits_2, if_neg (nI_ge (by omega) (by omega)), if_neg (show ¬ (8 : Int32) ≤ nI i from nI_ge (b := 8) hi8 (by decide)), ldI_at (j := i) rfl hi8 (by decide), ldI_at (j := i) rfl hi8 (by decide), fB, et, eh]
    unfold fX5_laterIll
    rw [show fX5_laterIll_5 (nI h) v FU (be i) 0 = _ from later_loop v (by omega) h 0 (by omega) FU (be i) (by have : FU = 8192 := rfl; omega), bd1_s, bd1_s, ldI_at (j := i) rfl hi8 (by decide)]
    by_cases c : lat v h (be i) = af i
    · rw [if_pos c, nme_s, nI_1, ih (i + 1) (by omega) m (by omega), decide_eq_true c, Bool.true_and]
    · rw [if_neg c, decide_eq_false c, Bool.false_and]; rfl
theorem mfits_loop {be ho af si : Nat → Int32} (hv : ∀ i, i < 8 → 0 ≤ (ho i).toInt ∧ (ho i).toInt ≤ 9) (hs : ∀ i, i < 8 → si (3 * i) = be i ∧ si (3 * i + 1) = ho i ∧ si (3 * i + 2) = af i) (v : Int32) {n : Nat} (hn : n ≤ 8) : ∀ (d i : Nat), i + d = n → ∀ (fuel : Nat) (b : Bool), d < fuel → fX8_fits_4 FU (nI n) si v fuel (if b then 1 else 0) (nI i) = some (if b && fB be ho af v d i then 1 else 0) := by
  intro d
  induction d with
  | zero =>
    intro i hi fuel b hf
    obtain ⟨m, rfl⟩ : ∃ m, fuel = m + 1 := ⟨fuel - 1, by omega⟩
    rw [fX8_fits_4, if_pos (nI_le (by omega) (by omega)), fB, Bool.and_true]
  | succ d ih =>
    intro i hi fuel b hf
    obtain ⟨m, rfl⟩ : ∃ m, fuel = m + 1 := ⟨fuel - 1, by omega⟩
    have hi8 : i < 8 := by omega
    obtain ⟨h, hh, eh⟩ := nI_of_toInt (n := 10) (hv i hi8).1 (by have := (hv i hi8).2; omega)
    have et : (ho i).toInt.toNat = h := by rw [eh, nI_toInt (by omega)]; rfl
    obtain ⟨s1, s2, s3⟩ := hs i hi8
    rw [fX8_fits_4, if_neg (nI_ge (by omega) (by omega)), ldI_at (iy30 i) (by omega) (by decide), s1, show fX8_fits_25 si (nI i) v FU (be i) 0 = _ from mlater_loop v hi8 (s2.trans eh) (by omega) h 0 (by omega) FU (be i) (by have : FU = 8192 := rfl; omega), bd1_s, ldI_at (iy32 i) (by omega) (by decide), s3, fB, et]
    cases b
    · simp only [bd1_s, nme_s, if0, if1, if_true, if_false, Bool.false_eq_true, nI_1, Bool.false_and]
      have := ih (i + 1) (by omega) m false (by omega)
      simp only [bd1_s, nme_s, if0, if1, if_true, if_false, Bool.false_eq_true, nI_1, Bool.false_and] at this
      exact this
    · by_cases c : lat v h (be i) = af i
      · have := ih (i + 1) (by omega) m true (by omega)
        simp only [bd1_s, nme_s, if0, if1, if_true, if_false, Bool.false_eq_true, nI_1] at this
        simp only [if_pos c, bd1_s, nme_s, if0, if1, if_true, if_false, Bool.false_eq_true, nI_1, this, decide_eq_true c, Bool.true_and]
      · have := ih (i + 1) (by omega) m false (by omega)
        simp only [bd1_s, nme_s, if0, if1, if_true, if_false, Bool.false_eq_true, nI_1, Bool.false_and] at this
        simp only [if_neg c, bd1_s, nme_s, if0, if1, if_true, if_false, Bool.false_eq_true, nI_1, this, decide_eq_false c, Bool.false_and, Bool.and_false]
theorem fits_s {be ho af si : Nat → Int32} (hv : ∀ i, i < 8 → 0 ≤ (ho i).toInt ∧ (ho i).toInt ≤ 9) (hs : ∀ i, i < 8 → si (3 * i) = be i ∧ si (3 * i + 1) = ho i ∧ si (3 * i + 2) = af i) {n : Nat} (hn : n ≤ 8) (v : Int32) : fX5_fits FU (nI n) be ho af v = some (if fB be ho af v n 0 then 1 else 0) ∧ fX8_fits FU (nI n) si v = some (if fB be ho af v n 0 then 1 else 0) := by
  have e1 := cfits_loop (be := be) (af := af) hv v hn n 0 (by omega) FU (by have : FU = 8192 := rfl; omega)
  have e2 := mfits_loop hv hs v hn n 0 (by omega) FU true (by have : FU = 8192 := rfl; omega)
  unfold fX5_fits fX8_fits
  rw [show fX5_fits_2 FU (nI n) be ho v af FU 0 = _ from e1, show fX8_fits_4 FU (nI n) si v FU 1 0 = _ from e2, bd1_s, Bool.true_and]
  cases fB be ho af v n 0
  · exact ⟨br0_l, by unfold rzB; rfl⟩
  · exact ⟨br0_r, by unfold rzB; rfl⟩
def pcB (t : Nat) : Nat := t % 2 + t / 2 % 2 + t / 4 % 2 + t / 8 % 2 + t / 16 % 2 + t / 32 % 2 + t / 64 % 2 + t / 128 % 2 + t / 256 % 2 + t / 512 % 2 + t / 1024 % 2
theorem pcB_s : ∀ t : Nat, t < 2048 → fJ6_bitCount_0f7a4 (nI t) = some (nI (pcB t)) := by decide +kernel
theorem pcB_step : ∀ i : Nat, i < 11 → ∀ t : Nat, t < 2 ^ i → (nI t ||| ((1 : Int32) <<< (nI i &&& 31))) = nI (t + 2 ^ i) ∧ pcB (t + 2 ^ i) = pcB t + 1 ∧ t + 2 ^ i < 2 ^ (i + 1) := by decide +kernel
theorem hbB_step : ∀ i : Nat, i < 11 → ∀ t : Nat, t < 2 ^ i → ∀ q : Nat, q < 11 → hb (nI (t + 2 ^ i)) q = (hb (nI t) q || decide (q = i)) := by decide +kernel
def cnG (g : Nat → Bool) : Nat → Nat → Nat
  | 0, _ => 0
  | d + 1, i => (if g i then 1 else 0) + cnG g d (i + 1)
theorem cnG_le (g : Nat → Bool) : ∀ d i, cnG g d i ≤ d := by
  intro d
  induction d with
  | zero => intro i; exact Nat.le_refl _
  | succ d ih => intro i; have := ih (i + 1); rw [cnG]; split <;> omega
theorem fitting_loop {be ho af : Nat → Int32} {n : Nat} {g : Nat → Bool} (hg : ∀ k, k < 11 → fX5_fits FU (nI n) be ho af (vk k) = some (if g k then 1 else 0)) : ∀ (d i : Nat), i + d = 11 → ∀ (fuel t : Nat), d < fuel → t < 2 ^ i → (∀ q, q < 11 → hb (nI t) q = (decide (q < i) && g q)) → ∃ t2, t2 < 2048 ∧ fX5_fitting_5 FU (nI n) be ho af fuel (nI t) (vk i) = some (nI t2) ∧ pcB t2 = pcB t + cnG g d i ∧ ∀ q, q < 11 → hb (nI t2) q = g q := by
  intro d
  induction d with
  | zero =>
    intro i hi fuel t hf ht hq
    obtain ⟨m, rfl⟩ : ∃ m, fuel = m + 1 := ⟨fuel - 1, by omega⟩
    obtain rfl : i = 11 := by omega
    rw [fX5_fitting_5, if_pos vk_end.1]
    exact ⟨t, ht, rfl, rfl, fun q h => by rw [hq q h, decide_eq_true h, Bool.true_and]⟩
  | succ d ih =>
    intro i hi fuel t hf ht hq
    obtain ⟨m, rfl⟩ : ∃ m, fuel = m + 1 := ⟨fuel - 1, by omega⟩
    have hi11 : i < 11 := by omega
    rw [fX5_fitting_5, if_neg (vk_in i hi11).1, hg i hi11, vk_5, vk_1, bd1_s, cnG]
    have h2 : 2 ^ i < 2 ^ (i + 1) := Nat.pow_lt_pow_right (by omega) (by omega)
    cases hgi : g i
    · simp only [bd1_s, nme_s, if0, if1, if_true, if_false, Bool.false_eq_true, nI_1, Int32.or_zero, Nat.zero_add]
      refine ih (i + 1) (by omega) m t (by omega) (by omega) (fun q h => ?_)
      rw [hq q h]
      by_cases c : q = i
      · subst c; rw [hgi]; simp
      · congr 1; apply decide_eq_decide.mpr; omega
    · obtain ⟨s1, s2, s3⟩ := pcB_step i hi11 t ht
      simp only [bd1_s, nme_s, if0, if1, if_true, if_false, Bool.false_eq_true, nI_1, s1]
      obtain ⟨t2, f1, f2, f3, f4⟩ := ih (i + 1) (by omega) m (t + 2 ^ i) (by omega) s3 (fun q h => by
        rw [hbB_step i hi11 t ht q h, hq q h]
        by_cases c : q = i
        · subst c; rw [hgi]; simp
        · rw [decide_eq_false c, Bool.or_false]; congr 1; apply decide_eq_decide.mpr; omega)
      exact ⟨t2, f1, f2, by omega, f4⟩
theorem hbz11 : ∀ q : Nat, q < 11 → hb (nI 0) q = false := by decide
theorem fitting_s {be ho af : Nat → Int32} {n : Nat} {g : Nat → Bool} (hg : ∀ k, k < 11 → fX5_fits FU (nI n) be ho af (vk k) = some (if g k then 1 else 0)) : ∃ t2, t2 < 2048 ∧ fX5_fitting FU (nI n) be ho af = some (nI t2) ∧ pcB t2 = cnG g 11 0 ∧ ∀ q, q < 11 → hb (nI t2) q = g q := by
  obtain ⟨t2, f1, f2, f3, f4⟩ := fitting_loop hg 11 0 rfl FU 0 (by decide) (by decide) (fun q h => by rw [hbz11 q h]; rfl)
  unfold fX5_fitting
  rw [show fX5_fitting_5 FU (nI n) be ho af FU 0 (-5) = _ from f2, bd1_s]
  exact ⟨t2, f1, rfl, f3.trans (by show 0 + _ = _; omega), f4⟩
theorem does_loop {si : Nat → Int32} {n : Nat} {g : Nat → Bool} (hg : ∀ k, k < 11 → fX8_fits FU (nI n) si (vk k) = some (if g k then 1 else 0)) {R : Int32} (hR : ∀ q, q < 11 → hb R q = g q) (v : Int32) : ∀ (d i : Nat), i + d = 11 → ∀ (fuel : Nat) (w : Int32), d < fuel → (∃ x, fX7_does_27 R v fuel w (vk i) = some (Sum.inl x) ∧ fX8_does_5 FU (nI n) si v fuel w (vk i) = some (Sum.inl x)) ∨ (fX7_does_27 R v fuel w (vk i) = some (Sum.inr ()) ∧ ∃ c, fX8_does_5 FU (nI n) si v fuel w (vk i) = some (Sum.inr c)) := by
  intro d
  induction d with
  | zero =>
    intro i hi fuel w hf
    obtain ⟨m, rfl⟩ : ∃ m, fuel = m + 1 := ⟨fuel - 1, by omega⟩
    obtain rfl : i = 11 := by omega
    rw [fX7_does_27, fX8_does_5, if_pos vk_end.1, if_pos vk_end.2]
    exact Or.inr ⟨rfl, _, rfl⟩
  | succ d ih =>
    intro i hi fuel w hf
    obtain ⟨m, rfl⟩ : ∃ m, fuel = m + 1 := ⟨fuel - 1, by omega⟩
    have hi11 : i < 11 := by omega
    rw [fX7_does_27, fX8_does_5, if_neg (vk_in i hi11).1, if_neg (vk_in i hi11).2, hg i hi11, vk_5, vk_1, bd1_s]
    cases hgi : g i
    · rw [bit01_0 ((hR i hi11).trans hgi), if_neg (by decide)]
      simp only [bd1_s, nme_s, if0, if1, if_true, if_false, Bool.false_eq_true, nI_1]
      exact ih (i + 1) (by omega) m w (by omega)
    · rw [bit01_1 ((hR i hi11).trans hgi), if_pos rfl]
      simp only [bd1_s, nme_s, if0, if1, if_true, if_false, Bool.false_eq_true, nI_1]
      by_cases c : w = v
      · rw [if_pos c, if_pos c]; exact Or.inl ⟨_, rfl, rfl⟩
      · rw [if_neg c, if_neg c]; exact ih (i + 1) (by omega) m _ (by omega)
theorem nI_ne1 : ∀ c : Nat, c < 12 → ¬ nI c = -1 := by decide
theorem doesm_loop {si : Nat → Int32} {n : Nat} {g : Nat → Bool} (hg : ∀ k, k < 11 → fX8_fits FU (nI n) si (vk k) = some (if g k then 1 else 0)) : ∀ (d i : Nat), i + d = 11 → ∀ (fuel c : Nat), d < fuel → c ≤ i → fX8_does_5 FU (nI n) si (-1) fuel (nI c) (vk i) = some (Sum.inr (nI (c + cnG g d i))) := by
  intro d
  induction d with
  | zero =>
    intro i hi fuel c hf hc
    obtain ⟨m, rfl⟩ : ∃ m, fuel = m + 1 := ⟨fuel - 1, by omega⟩
    obtain rfl : i = 11 := by omega
    rw [fX8_does_5, if_pos vk_end.2]; rfl
  | succ d ih =>
    intro i hi fuel c hf hc
    obtain ⟨m, rfl⟩ : ∃ m, fuel = m + 1 := ⟨fuel - 1, by omega⟩
    have hi11 : i < 11 := by omega
    rw [fX8_does_5, if_neg (vk_in i hi11).2, hg i hi11, vk_1, bd1_s, cnG]
    cases hgi : g i
    · simp only [bd1_s, nme_s, if0, if1, if_true, if_false, Bool.false_eq_true, nI_1, Nat.zero_add]
      exact ih (i + 1) (by omega) m c (by omega) (by omega)
    · simp only [bd1_s, nme_s, if0, if1, if_true, if_false, Bool.false_eq_true, nI_1, if_neg (nI_ne1 c (by omega))]
      rw [ih (i + 1) (by omega) m (c + 1) (by omega) (by omega), Nat.add_assoc]
theorem ps_does : PS_does := by
  intro th sa hr il ro ef bf li cn be ho af le sg mo mt bk ds ba ml ms si sn pa mm hH hP hM a1
  obtain ⟨⟨v1, v2, v3, v4, v5, v6, v7, v8, v9, v10, v11⟩, h1, h2, h3, h4, h5, h6, h7, h8, h9, h10⟩ := hH
  subst h9
  obtain ⟨n, hn, rfl⟩ := nI_of_toInt (n := 9) (x := ms) v10.1 (by have := v10.2; omega)
  have hv : ∀ i, i < 8 → 0 ≤ (ho i).toInt ∧ (ho i).toInt ≤ 9 := fun i hi => (v11 i hi).2.1
  have hf := fits_s hv h10 (show n ≤ 8 by omega)
  obtain ⟨t, f1, f2, f3, f4⟩ := fitting_s (g := fun k => fB be ho af (vk k) n 0) (fun k _ => (hf (vk k)).1)
  unfold fX7_does fX8_does
  rw [f2, bd1_s]
  by_cases c : a1 = -1
  · subst c
    have e := doesm_loop (g := fun k => fB be ho af (vk k) n 0) (fun k _ => (hf (vk k)).2) 11 0 rfl FU 0 (by decide) (by omega)
    rw [if_pos rfl, pcB_s t f1, f3, bd1_s, show fX8_does_5 FU (nI n) si (-1) FU 0 (-5) = _ from e, br1_r, if_pos rfl, Nat.zero_add]
    exact ⟨_, rfl, rfl⟩
  · rw [if_neg c]
    rcases does_loop (g := fun k => fB be ho af (vk k) n 0) (fun k _ => (hf (vk k)).2) f4 a1 11 0 rfl FU 0 (by decide) with ⟨x, e1, e2⟩ | ⟨e1, y, e2⟩
    · rw [show fX7_does_27 (nI t) a1 FU 0 (-5) = _ from e1, show fX8_does_5 FU (nI n) si a1 FU 0 (-5) = _ from e2, br0_l, br1_l]
      exact ⟨_, rfl, rfl⟩
    · rw [show fX7_does_27 (nI t) a1 FU 0 (-5) = _ from e1, show fX8_does_5 FU (nI n) si a1 FU 0 (-5) = _ from e2, br0_r, br1_r, if_neg c]
      exact ⟨_, rfl, rfl⟩
