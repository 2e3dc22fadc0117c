/-! a week by draws -/
theorem nI_div {a b : Nat} (ha : a < 2 ^ 31) (hb : b < 2 ^ 31) : nI a / nI b = nI (a / b) := by
  apply Int32.toInt_inj.mp
  have hle : a / b ≤ a := Nat.div_le_self a b
  have e : ((a : Int).tdiv (b : Int)) = ((a / b : Nat) : Int) := by rw [Int.tdiv_eq_ediv_of_nonneg (by omega)]; rfl
  rw [Int32.toInt_div, nI_toInt ha, nI_toInt hb, e, nI_toInt (show a / b < 2 ^ 31 by omega)]
  clear e
  generalize a / b = q at hle ⊢
  exact Int.bmod_eq_of_le (by omega) (by omega)
theorem nI_rem {a b : Nat} (ha : a < 2 ^ 31) (hb : b < 2 ^ 31) : nI a - nI a / nI b * nI b = nI (a % b) := by
  rw [nI_div ha hb, nI_mul, sub_nI (Nat.div_mul_le_self a b)]
  congr 1
  have := Nat.div_add_mod a b
  have e : a / b * b = b * (a / b) := Nat.mul_comm _ _
  omega
theorem lcg_s {j : Nat} (h : j < 65537) : ((75 : Int32) * nI j + 74) - ((75 : Int32) * nI j + 74) / 65537 * 65537 = nI ((75 * j + 74) % 65537) := by
  rw [show (75 : Int32) * nI j + 74 = nI (75 * j + 74) by rw [show (75 : Int32) = nI 75 from rfl, show (74 : Int32) = nI 74 from rfl, nI_mul, nI_add]]
  exact nI_rem (b := 65537) (by omega) (by decide)
set_option maxHeartbeats 2000000 in
theorem drift_sim {th : Int32} {ef bf li : Nat → Int32} {cn : Int32} {be ho af : Nat → Int32} {mt : Int32} {ds ba ml : Nat → Int32} {ms : Int32} {si : Nat → Int32} {n : Nat} (hn : n ≤ 99) : ∀ (d i : Nat), i + d = n → ∀ (fc fm : Nat), d < fc → d < fm → ∀ (j : Nat), j < 65537 → ∀ (acts why hh wa ww sa hr : Int32) (il ro nw tn ah : Nat → Int32), RelH th sa hr il ro ef bf li cn be ho af mt nw ds ba ml ms si → wOK wa hh → 0 ≤ hh.toInt → hh.toInt ≤ hr.toInt →
    ∃ a2 y h2 wa2 ww2 sa2 hr2 il2 ro2 nw2 tn2 ah2, fX6_drift_11 FU (nI n) th ef bf fc (nI j) (nI i) acts why hh wa ww sa hr il ro = some (a2, y, h2, wa2, ww2, sa2, hr2, il2, ro2) ∧ fX8_week_43 FU (nI n) mt ds ba fm (nI j) (nI i) wa ww hh nw tn ah = some (wa2, ww2, h2, nw2, tn2, ah2) ∧ RelH th sa2 hr2 il2 ro2 ef bf li cn be ho af mt nw2 ds ba ml ms si := by
  intro d
  induction d with
  | zero =>
    intro i hi fc fm hfc hfm j hj acts why hh wa ww sa hr il ro nw tn ah H hw hh0 hh1
    obtain ⟨fc, rfl⟩ : ∃ m, fc = m + 1 := ⟨fc - 1, by omega⟩
    obtain ⟨fm, rfl⟩ : ∃ m, fm = m + 1 := ⟨fm - 1, by omega⟩
    rw [fX6_drift_11, if_pos (nI_le (by omega) (by omega)), fX8_week_43, if_pos (nI_le (by omega) (by omega))]
    exact ⟨_, _, _, _, _, _, _, _, _, _, _, _, rfl, rfl, H⟩
  | succ d ih =>
    intro i hi fc fm hfc hfm j hj acts why hh wa ww sa hr il ro nw tn ah H hw hh0 hh1
    obtain ⟨fc, rfl⟩ : ∃ m, fc = m + 1 := ⟨fc - 1, by omega⟩
    obtain ⟨fm, rfl⟩ : ∃ m, fm = m + 1 := ⟨fm - 1, by omega⟩
    have hj2 : (75 * j + 74) % 65537 < 65537 := Nat.mod_lt _ (by decide)
    rw [fX6_drift_11, if_neg (nI_ge (by omega) (by omega)), fX8_week_43, if_neg (nI_ge (by omega) (by omega)), lcg_s hj]
    generalize (75 * j + 74) % 65537 = x at hj2
    simp only [nme_s]
    rw [show nI x - nI x / 8 * 8 = nI (x % 8) from nI_rem (b := 8) (by omega) (by decide)]
    unfold fX6_drawnAim
    rw [nme_s, show nI x - nI x / 8 * 8 = nI (x % 8) from nI_rem (b := 8) (by omega) (by decide), show nI x / 48 = nI (x / 48) from nI_div (b := 48) (by omega) (by decide), show nI (x / 48) - nI (x / 48) / 4 * 4 = nI (x / 48 % 4) from nI_rem (b := 4) (by omega) (by decide)]
    have hr4 : x / 48 % 4 < 4 := Nat.mod_lt _ (by decide)
    by_cases c4 : x % 8 < 4
    · have n4 : ¬ (4 : Int32) ≤ nI (x % 8) := nI_ge (b := 4) c4 (by decide)
      rw [if_neg n4, if_neg n4, bd1_s]
      rcases act_hour H hw hh0 hh1 acts why (nI x / 8 - nI x / 8 / 6 * 6) tn ah with ⟨e1, e2⟩ | ⟨wa', ww', g2, g3, tn', ah', e1, e2, H2, hw2, k0, k1⟩
      · rw [e1, e2, bd9_s, bd7_s, bd6_s, nI_1]
        exact ih (i + 1) (by omega) fc fm (by omega) (by omega) x hj2 _ _ _ _ _ _ _ _ _ _ _ _ H hw hh0 hh1
      · rw [e1, e2, bd9_s, bd7_s, bd6_s, nI_1]
        exact ih (i + 1) (by omega) fc fm (by omega) (by omega) x hj2 _ _ _ _ _ _ _ _ _ _ _ _ H2 hw2 k0 k1
    · have p4 : (4 : Int32) ≤ nI (x % 8) := nI_le (a := 4) (by omega) (by omega)
      rw [if_pos p4, if_pos p4]
      by_cases c6 : x % 8 < 6
      · have n6 : ¬ (6 : Int32) ≤ nI (x % 8) := nI_ge (b := 6) c6 (by decide)
        rw [if_neg n6, if_neg n6, bd1_s]
        obtain ⟨y, sa2, g3, e1, e2, e3, H2⟩ := act_sit H (wa := wa) (ww := ww) (hh := hh) acts why (nI x / 8 - nI x / 8 / 6 * 6)
        rw [e1, e2, bd9_s, bd2_s, bd1_s, bd6_s, nI_1]
        exact ih (i + 1) (by omega) fc fm (by omega) (by omega) x hj2 _ _ _ _ _ _ _ _ _ _ _ _ H2 hw hh0 hh1
      · have p6 : (6 : Int32) ≤ nI (x % 8) := nI_le (a := 6) (by omega) (by omega)
        rw [if_pos p6, if_pos p6, bd1_s]
        obtain ⟨y, ro2, g3, e1, e2, e3, H2⟩ := act_walk H (wa := wa) (ww := ww) (hh := hh) acts why (nI x / 8 - nI x / 8 / 6 * 6) hr4
        rw [e1, e2, bd9_s, bd2_s, bd1_s, bd6_s, nI_1]
        exact ih (i + 1) (by omega) fc fm (by omega) (by omega) x hj2 _ _ _ _ _ _ _ _ _ _ _ _ H2 hw hh0 hh1
def pcN (t : Nat) : Nat := t % 2 + t / 2 % 2 + t / 4 % 2 + t / 8 % 2 + t / 16 % 2 + t / 32 % 2
theorem pcN_s : ∀ t : Nat, t < 64 → fJ6_bitCount_0f7a4 (nI t) = some (nI (pcN t)) := by decide +kernel
theorem pcN_step : ∀ i : Nat, i < 6 → ∀ t : Nat, t < 64 → t < 2 ^ i → (nI t ||| ((1 : Int32) <<< (nI i &&& 31))) = nI (t + 2 ^ i) ∧ pcN (t + 2 ^ i) = pcN t + 1 ∧ t + 2 ^ i < 2 ^ (i + 1) := by decide +kernel
theorem count_loop (th : Int32) {il nw : Nat → Int32} (h : ∀ k, k < 18 → nw k = il k) : ∀ (d i : Nat), i + d = 6 → ∀ (fuel : Nat) (w : Int32) (t : Nat), d < fuel → t < 2 ^ i → ∃ r t2, t2 < 64 ∧ fX1_illsOfAll_4 th il fuel w (nI i) = some r ∧ fX1_wellPieces_4 th il fuel (nI t) (nI i) = some (nI t2) ∧ fX8_week_139 th nw fuel w (nI (pcN t)) (nI i) = some (r, nI (pcN t2)) := by
  intro d
  induction d with
  | zero =>
    intro i hi fuel w t hf ht
    obtain ⟨m, rfl⟩ : ∃ m, fuel = m + 1 := ⟨fuel - 1, by omega⟩
    rw [fX1_illsOfAll_4, fX1_wellPieces_4, fX8_week_139, if_pos (six_le (by omega)), if_pos (six_le (by omega)), if_pos (six_le (by omega))]
    obtain rfl : i = 6 := by omega
    exact ⟨_, _, ht, rfl, rfl, rfl⟩
  | succ d ih =>
    intro i hi fuel w t hf ht
    obtain ⟨m, rfl⟩ : ∃ m, fuel = m + 1 := ⟨fuel - 1, by omega⟩
    have hi6 : i < 6 := by omega
    have h2 : 2 ^ i ≤ 2 ^ 5 := Nat.pow_le_pow_right (by decide) (by omega)
    have h3 : 2 ^ i < 2 ^ (i + 1) := Nat.pow_lt_pow_right (by decide) (by omega)
    obtain ⟨s1, s2, s3⟩ := pcN_step i hi6 t (by omega) ht
    rw [fX1_illsOfAll_4, fX1_wellPieces_4, fX8_week_139, if_neg (six_nle hi6), if_neg (six_nle hi6), if_neg (six_nle hi6), there_s th hi6, has_s, illsOf_s il hi6, millsOf_s nw hi6, sI_eq h hi6]
    cases hb th i
    · simp only [bd1_s, nme_s, if0, if1, if_true, if_false, Bool.false_eq_true, nI_1, Int32.add_zero]
      exact ih (i + 1) (by omega) m _ t (by omega) (by omega)
    · simp only [bd1_s, nme_s, if0, if1, if_true, if_false, Bool.false_eq_true, nI_1]
      by_cases c : sI il i = 0
      · simp only [if_pos c, bd1_s, nme_s, if0, if1, if_true, if_false, Bool.false_eq_true, nI_1, s1]
        rw [← s2]
        exact ih (i + 1) (by omega) m _ _ (by omega) s3
      · simp only [if_neg c, bd1_s, nme_s, if0, if1, if_true, if_false, Bool.false_eq_true, nI_1, Int32.add_zero]
        exact ih (i + 1) (by omega) m _ t (by omega) (by omega)
set_option maxHeartbeats 1000000 in
theorem ps_week : PS_week := by
  intro th sa hr il ro ef bf li cn be ho af le sg mo mt bk ds ba ml ms si sn pa mm xa xw xh xwh xwp xt xs xr xil xro xef xbf xli xcn xbe xho xaf wa ww hh nw tn ah hH hP hM a1 a2 a3
  unfold fX7_week fX8_week
  simp only [betw_in, among_in (v := a3) (n := 3) (m := 2) (by decide)]
  rcases in_cases a1 0 9999 with ⟨g, -⟩ | ⟨g, b1, c1⟩
  · simp only [g, bd1_s, nme_s, if0, if1, if_true, if_false, Bool.false_eq_true, nI_1]; exact ⟨_, _, _, _, _, _, _, _, _, _, _, _, _, _, _, _, _, _, _, _, _, _, _, _, rfl, rfl⟩
  simp only [g, bd1_s, nme_s, if0, if1, if_true, if_false, Bool.false_eq_true, nI_1]
  rcases in_cases a2 1 99 with ⟨g, -⟩ | ⟨g, b2, c2⟩
  · simp only [g, bd1_s, nme_s, if0, if1, if_true, if_false, Bool.false_eq_true, nI_1]; exact ⟨_, _, _, _, _, _, _, _, _, _, _, _, _, _, _, _, _, _, _, _, _, _, _, _, rfl, rfl⟩
  simp only [g, bd1_s, nme_s, if0, if1, if_true, if_false, Bool.false_eq_true, nI_1]
  rcases in_cases a3 0 2 with ⟨g, -⟩ | ⟨g, -⟩
  · simp only [g, bd1_s, nme_s, if0, if1, if_true, if_false, Bool.false_eq_true, nI_1]; exact ⟨_, _, _, _, _, _, _, _, _, _, _, _, _, _, _, _, _, _, _, _, _, _, _, _, rfl, rfl⟩
  simp only [g, bd1_s, nme_s, if0, if1, if_true, if_false, Bool.false_eq_true, nI_1]
  have z0 : (0 : Int32).toInt = 0 := by decide
  have z1 : (1 : Int32).toInt = 1 := by decide
  have z99 : (99 : Int32).toInt = 99 := by decide
  have z9999 : (9999 : Int32).toInt = 9999 := by decide
  obtain ⟨j, hj, rfl⟩ := nI_of_toInt (n := 65537) (x := a1) (by omega) (by omega)
  obtain ⟨n, hn, rfl⟩ := nI_of_toInt (n := 100) (x := a2) (by omega) (by omega)
  obtain ⟨il', ro', ef', bf', li', be', ho', af', e0, e1, e2, e3, e4, e5, e6, e7, e8⟩ := take_s xt xs xr xil xro xef xbf xli xcn xbe xho xaf th sa hr il ro ef bf li cn be ho af
  have H1 := (hH.take e1 e2 e3 e4 e5 e6 e7 e8).book (bk' := cp26 bk nw) (fun k hk => cp26_at bk nw hk)
  obtain ⟨a2, y, h2, wa2, ww2, sa2, hr2, il2, ro2, nw2, tn2, ah2, f1, f2, H2⟩ := drift_sim (n := n) (by omega) n 0 (by omega) FU FU (by have : FU = 8192 := rfl; omega) (by have : FU = 8192 := rfl; omega) j hj 0 0 0 (-6) (-6) sa hr il' ro' (cp26 bk nw) tn ah H1 (Or.inl rfl) (by decide) hH.1.2.2.1.1
  obtain ⟨r, t2, k0, k1, k2, k3⟩ := count_loop th (il := il2) (nw := nw2) H2.2.2.1 6 0 rfl FU 0 0 (by decide) (by decide)
  unfold fX6_drift fX6_start fX8_begin
  rw [e0, bd12_s, bd17_s, show fX6_drift_11 FU (nI n) th ef' bf' FU (nI j) 0 0 0 0 (-6) (-6) sa hr il' ro' = _ from f1, bd9_s, bd17_s, asNow_s, bd1_s, bd4_s, show fX8_week_43 FU (nI n) mt ds ba FU (nI j) 0 (-6) (-6) 0 (cp26 bk nw) tn ah = _ from f2, bd6_s]
  have em : mt = th := hH.2.1
  subst em
  rw [show fX8_week_139 mt nw2 FU 0 0 0 = _ from k3, bd2_s]
  by_cases c0 : a3 = 0
  · unfold fX1_illsOfAll
    simp only [if_pos c0]
    rw [show fX1_illsOfAll_4 mt il2 FU 0 0 = _ from k1, bd1_s, bd1_s]
    exact ⟨_, _, _, _, _, _, _, _, _, _, _, _, _, _, _, _, _, _, _, _, _, _, _, _, rfl, rfl⟩
  · by_cases c1 : a3 = 1
    · unfold fX1_wellPieces
      simp only [if_neg c0, if_pos c1]
      rw [show fX1_wellPieces_4 mt il2 FU 0 0 = _ from k2, bd1_s, bd1_s, pcN_s t2 k0, bd1_s]
      exact ⟨_, _, _, _, _, _, _, _, _, _, _, _, _, _, _, _, _, _, _, _, _, _, _, _, rfl, rfl⟩
    · simp only [if_neg c0, if_neg c1]
      exact ⟨_, _, _, _, _, _, _, _, _, _, _, _, _, _, _, _, _, _, _, _, _, _, _, _, rfl, rfl⟩
