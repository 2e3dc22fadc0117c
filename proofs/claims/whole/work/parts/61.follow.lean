/-! cures followed -/
theorem fault_step {pa : Nat → Int32} {n : Nat} (hn : n ≤ 60) {i ff : Nat} (hi : i < n) (hF : fX8_faultOf_4 (nI n) pa ff 0 (nI i) = some (Sum.inr 0)) : (pa i = 46 ∧ ∃ f2, fX8_faultOf_4 (nI n) pa f2 0 (nI (i + 1)) = some (Sum.inr 0)) ∨ (¬ pa i = 46 ∧ 65 ≤ (pa i).toInt ∧ (pa i).toInt ≤ 70 ∧ i + 1 < n ∧ (pa (i + 1) = 33 ∨ (¬ pa (i + 1) = 33 ∧ 97 ≤ (pa (i + 1)).toInt ∧ (pa (i + 1)).toInt ≤ 100)) ∧ ∃ f2, fX8_faultOf_4 (nI n) pa f2 0 (nI (i + 2)) = some (Sum.inr 0)) := by
  cases ff with
  | zero => cases hF
  | succ ff =>
    rw [fX8_faultOf_4, if_neg (nI_ge hi (by omega)), ldI_at (j := i) rfl (by omega) (by decide)] at hF
    have z65 : (65 : Int32).toInt = 65 := by decide
    have z70 : (70 : Int32).toInt = 70 := by decide
    have z97 : (97 : Int32).toInt = 97 := by decide
    have z100 : (100 : Int32).toInt = 100 := by decide
    by_cases c : pa i = 46
    · have g : fX8_in (pa i) 65 70 = some 0 := by rw [c]; decide
      simp only [g, if_pos c, bd1_s, nme_s, if0, if1, if_true, if_false, Bool.false_eq_true, nI_1] at hF
      exact Or.inl ⟨c, ff, hF⟩
    · rcases in_cases (pa i) 65 70 with ⟨g, -⟩ | ⟨g, g1, g2⟩
      · simp only [g, if_neg c, bd1_s, nme_s, if0, if1, if_true, if_false, Bool.false_eq_true, nI_1] at hF
        cases hF
      · simp only [g, if_neg c, bd1_s, nme_s, if0, if1, if_true, if_false, Bool.false_eq_true, nI_1] at hF
        right
        cases ff with
        | zero => cases hF
        | succ ff =>
          by_cases hl : i + 1 < n
          · rw [fX8_faultOf_4, if_neg (nI_ge hl (by omega)), ldI_at (j := i + 1) rfl (by omega) (by decide)] at hF
            by_cases c2 : pa (i + 1) = 33
            · simp only [if_pos c2, bd1_s, nme_s, if0, if1, if_true, if_false, Bool.false_eq_true, nI_1] at hF
              exact ⟨c, by omega, by omega, hl, Or.inl c2, ff, hF⟩
            · rcases in_cases (pa (i + 1)) 97 100 with ⟨g', -⟩ | ⟨g', k1, k2⟩
              · simp only [g', if_neg c2, bd1_s, nme_s, if0, if1, if_true, if_false, Bool.false_eq_true, nI_1] at hF
                cases hF
              · simp only [g', if_neg c2, bd1_s, nme_s, if0, if1, if_true, if_false, Bool.false_eq_true, nI_1] at hF
                exact ⟨c, by omega, by omega, hl, Or.inr ⟨c2, by omega, by omega⟩, ff, hF⟩
          · rw [fX8_faultOf_4, if_pos (nI_le (by omega) (by omega))] at hF
            cases hF
set_option maxHeartbeats 2000000 in
theorem follow_sim {th : Int32} {ef bf li : Nat → Int32} {cn : Int32} {be ho af : Nat → Int32} {mt : Int32} {ds ba ml : Nat → Int32} {ms : Int32} {si : Nat → Int32} {sg pa : Nat → Int32} (hk : ∀ k, k < 60 → pa k = sg k) {n : Nat} (hn : n ≤ 60) : ∀ (d i : Nat), i + d = n → ∀ (fc fm ff : Nat), d + 1 < fc → d < fm → fX8_faultOf_4 (nI n) pa ff 0 (nI i) = some (Sum.inr 0) → ∀ (pc acts rs hh wa ww sa hr : Int32) (il ro nw tn ah : Nat → Int32), RelH th sa hr il ro ef bf li cn be ho af mt nw ds ba ml ms si → wOK wa hh → 0 ≤ hh.toInt → hh.toInt ≤ hr.toInt → 0 ≤ acts.toInt → acts.toInt ≤ (i : Int) →
    ∃ y a2 h2 wa2 ww2 sa2 hr2 il2 ro2 nw2 tn2 ah2, 0 ≤ a2.toInt ∧ fX6_follow_10 FU (nI n) sg th ef bf fc pc (nI i) acts 0 hh wa ww sa hr il ro = some (a2, y, h2, wa2, ww2, sa2, hr2, il2, ro2) ∧ RelH th sa2 hr2 il2 ro2 ef bf li cn be ho af mt nw2 ds ba ml ms si ∧ ((y = 0 ∧ ∃ rs2, fX8_goCures_11 FU (nI n) pa mt ds ba fm (nI i) wa ww hh rs acts nw tn ah = some (Sum.inr (wa2, ww2, h2, rs2, a2, nw2, tn2, ah2))) ∨ (0 < y.toInt ∧ fX8_goCures_11 FU (nI n) pa mt ds ba fm (nI i) wa ww hh rs acts nw tn ah = some (Sum.inl (a2, wa2, ww2, h2, y, a2, nw2, tn2, ah2)))) := by
  intro d
  induction d using Nat.strongRecOn with
  | _ d ih =>
    intro i hi fc fm ff hfc hfm hF pc acts rs hh wa ww sa hr il ro nw tn ah H hw hh0 hh1 ha0 ha1
    have hac : (acts + 1).toInt = acts.toInt + 1 := rng_sum (a := acts) (b := 1) (m := 100) (n := 1) ha0 (by omega) (by decide) (by decide) (by decide)
    obtain ⟨fc, rfl⟩ : ∃ m, fc = m + 1 := ⟨fc - 1, by omega⟩
    obtain ⟨fm, rfl⟩ : ∃ m, fm = m + 1 := ⟨fm - 1, by omega⟩
    have z65 : (65 : Int32).toInt = 65 := by decide
    have z70 : (70 : Int32).toInt = 70 := by decide
    by_cases hin : i < n
    · have hi60 : i < 60 := by omega
      rw [fX6_follow_10, if_neg (nI_ge hin (by omega)), if_pos rfl, signAt_s sg hi60, bd1_s, ← hk i hi60, piece_in, fX8_goCures_11, if_neg (nI_ge hin (by omega)), ldI_at (j := i) rfl hi60 (by decide)]
      rcases fault_step hn hin hF with ⟨c, f2, hF2⟩ | ⟨c, p1, p2, hin2, haim, f2, hF2⟩
      · -- an hour
        have g : fX8_in (pa i) 65 70 = some 0 := by rw [c]; decide
        have ga : fX2_aimOf (pa i) = some 5 := by rw [c]; decide
        rw [g, bd1_s, if0, ga, bd1_s, if_pos c]
        rcases act_hour H hw hh0 hh1 acts 0 pc tn ah with ⟨e1, e2⟩ | ⟨wa', ww', g2, g3, tn', ah', e1, e2, H2, hw2, k0, k1⟩
        · rw [e1, e2, bd9_s, bd10_s, bd7_s, nme_s, nme_s, nI_1, bd8_s, if_neg (by decide)]
          obtain ⟨fc, rfl⟩ : ∃ m, fc = m + 1 := ⟨fc - 1, by omega⟩
          refine ⟨4, acts, hh, wa, ww, sa, hr, il, ro, nw, tn, ah, ha0, ?_, H, Or.inr ⟨by decide, rfl⟩⟩
          rw [fX6_follow_10, if_neg (show ¬ (4 : Int32) = 0 by decide)]
          split <;> rfl
        · rw [e1, e2, bd9_s, bd10_s, bd7_s, nme_s, nme_s, nI_1, bd8_s, if_pos (by decide), nme_s]
          exact ih (d - 1) (by omega) (i + 1) (by omega) fc fm f2 (by omega) (by omega) hF2 pc (acts + 1) 0 (hh + 1) wa' ww' 0 (hr + 1) g2 ro g3 tn' ah' H2 hw2 k0 k1 (by omega) (by omega)
      · have g : fX8_in (pa i) 65 70 = some 1 := by
          rcases in_cases (pa i) 65 70 with ⟨-, g⟩ | ⟨g, -⟩
          · exact absurd ⟨by omega, by omega⟩ g
          · exact g
        rw [g, bd1_s, if1, nme_s, bd10_s, nme_s, nI_1, if_neg c, ldI_at (j := i) rfl hi60 (by decide), nme_s, ldI_at (j := i + 1) rfl (by omega) (by decide)]
        obtain ⟨fc, rfl⟩ : ∃ m, fc = m + 1 := ⟨fc - 1, by omega⟩
        have g2 : fX8_in (pa (i + 1)) 65 70 = some 0 := in_no (by
          rcases haim with e | ⟨-, e1, e2⟩
          · rw [e]; decide
          · omega)
        rw [fX6_follow_10, if_neg (nI_ge hin2 (by omega)), if_pos rfl, signAt_s sg (show i + 1 < 60 by omega), bd1_s, ← hk (i + 1) (by omega), piece_in, g2, bd1_s, if0]
        have e2i : nI i + 2 = nI (i + 2) := nI_add i 2
        have tail : ∀ (aim y : Int32) (sa2 : Int32) (ro2 g3 : Nat → Int32), fX2_aimOf (pa (i + 1)) = some aim → fX6_attempt FU acts 0 hh wa ww th sa hr il ro ef bf (pa i - 65) aim = some (if y = 0 then acts + 1 else acts, y, hh, wa, ww, sa2, hr, il, ro2) → (bd2 (if pa (i + 1) = 33 then bd2 (fX8_sit mt nw (pa i - 65)) fun r219 o220 => some (r219, o220) else ldI pa 60 (nI (i + 1)) fun x215 => bd2 (fX8_walk mt nw (pa i - 65) (x215 - 97)) fun r216 o217 => some (r216, o217)) fun j208 j209 => nme (nI i + 2) fun y212 => some (y212, wa, ww, hh, j208, j209, tn, ah)) = some (nI (i + 2), wa, ww, hh, y, g3, tn, ah) → (y = 0 ∨ 0 < y.toInt) → RelH th sa2 hr il ro2 ef bf li cn be ho af mt g3 ds ba ml ms si →
            ∃ y a2 h2 wa2 ww2 sa2 hr2 il2 ro2 nw2 tn2 ah2, 0 ≤ a2.toInt ∧ (bd10 (bd1 (fX2_aimOf (pa (i + 1))) fun r178 => bd9 (fX6_attempt FU acts 0 hh wa ww th sa hr il ro ef bf (pa i - 65) r178) fun o180 o181 o182 o183 o184 o185 o186 o187 o188 => some (pa i - 65, o180, o181, o182, o183, o184, o185, o186, o187, o188)) fun j155 j156 j157 j158 j159 j160 j161 j162 j163 j164 => nme (nI (i + 1) + 1) fun y175 => fX6_follow_10 FU (nI n) sg th ef bf fc j155 y175 j156 j157 j158 j159 j160 j161 j162 j163 j164) = some (a2, y, h2, wa2, ww2, sa2, hr2, il2, ro2) ∧ RelH th sa2 hr2 il2 ro2 ef bf li cn be ho af mt nw2 ds ba ml ms si ∧ ((y = 0 ∧ ∃ rs2, (bd8 (bd2 (if pa (i + 1) = 33 then bd2 (fX8_sit mt nw (pa i - 65)) fun r219 o220 => some (r219, o220) else ldI pa 60 (nI (i + 1)) fun x215 => bd2 (fX8_walk mt nw (pa i - 65) (x215 - 97)) fun r216 o217 => some (r216, o217)) fun j208 j209 => nme (nI i + 2) fun y212 => some (y212, wa, ww, hh, j208, j209, tn, ah)) fun j177 j178 j179 j180 j181 j182 j183 j184 => if j181 ≤ (0 : Int32) then nme (acts + 1) fun y194 => fX8_goCures_11 FU (nI n) pa mt ds ba fm j177 j178 j179 j180 j181 y194 j182 j183 j184 else some (Sum.inl (acts, j178, j179, j180, j181, acts, j182, j183, j184))) = some (Sum.inr (wa2, ww2, h2, rs2, a2, nw2, tn2, ah2))) ∨ (0 < y.toInt ∧ (bd8 (bd2 (if pa (i + 1) = 33 then bd2 (fX8_sit mt nw (pa i - 65)) fun r219 o220 => some (r219, o220) else ldI pa 60 (nI (i + 1)) fun x215 => bd2 (fX8_walk mt nw (pa i - 65) (x215 - 97)) fun r216 o217 => some (r216, o217)) fun j208 j209 => nme (nI i + 2) fun y212 => some (y212, wa, ww, hh, j208, j209, tn, ah)) fun j177 j178 j179 j180 j181 j182 j183 j184 => if j181 ≤ (0 : Int32) then nme (acts + 1) fun y194 => fX8_goCures_11 FU (nI n) pa mt ds ba fm j177 j178 j179 j180 j181 y194 j182 j183 j184 else some (Sum.inl (acts, j178, j179, j180, j181, acts, j182, j183, j184))) = some (Sum.inl (a2, wa2, ww2, h2, y, a2, nw2, tn2, ah2)))) := by
          intro aim y sa2 ro2 g3 ha hc hm hy H2
          rw [ha, bd1_s, hc, bd9_s, bd10_s, nme_s, hm, bd8_s]
          rcases hy with rfl | hy
          · rw [if_pos rfl, if_pos (by decide), nme_s, nI_1]
            exact ih (d - 2) (by omega) (i + 2) (by omega) fc fm f2 (by omega) (by omega) hF2 (pa i - 65) (acts + 1) 0 hh wa ww sa2 hr il ro2 g3 tn ah H2 hw hh0 hh1 (by omega) (by omega)
          · have hy0 : ¬ y = 0 := fun e => by rw [e] at hy; revert hy; decide
            have hyn : ¬ y ≤ 0 := fun e => by have := Int32.le_iff_toInt_le.mp e; have z : (0 : Int32).toInt = 0 := rfl; omega
            rw [if_neg hy0, if_neg hyn]
            obtain ⟨fc, rfl⟩ : ∃ m, fc = m + 1 := ⟨fc - 1, by omega⟩
            refine ⟨y, acts, hh, wa, ww, sa2, hr, il, ro2, g3, tn, ah, ha0, ?_, H2, Or.inr ⟨hy, rfl⟩⟩
            rw [fX6_follow_10, if_neg hy0]
            split <;> rfl
        rcases haim with e | ⟨e, k1, k2⟩
        · obtain ⟨y, sa2, g3, e1, e2, e3, H2⟩ := act_sit H (wa := wa) (ww := ww) (hh := hh) acts 0 (pa i - 65)
          exact tail 4 y sa2 ro g3 (by rw [e]; decide) e1 (by rw [if_pos e, e2, bd2_s, bd2_s, nme_s, e2i]) e3 H2
        · obtain ⟨j, hj, ej⟩ := nI_of_toInt (n := 101) (x := pa (i + 1)) (by omega) (by omega)
          have hj97 : 97 ≤ j := by rw [ej, nI_toInt (by omega)] at k1; omega
          have esub : pa (i + 1) - 97 = nI (j - 97) := by rw [ej]; exact sub_nI (b := 97) hj97
          obtain ⟨y, ro2, g3, e1, e2, e3, H2⟩ := act_walk H (wa := wa) (ww := ww) (hh := hh) acts 0 (pa i - 65) (r := j - 97) (by omega)
          have n46 : ¬ pa (i + 1) = 46 := fun h => by rw [h] at k1; revert k1; decide
          refine tail (nI (j - 97)) y sa ro2 g3 ?_ e1 ?_ e3 H2
          · unfold fX2_aimOf; rw [if_neg n46, if_neg e, esub]
          · rw [if_neg e, ldI_at (j := i + 1) rfl (by omega) (by decide), esub, e2, bd2_s, bd2_s, nme_s, e2i]
    · rw [fX6_follow_10, if_pos (nI_le (by omega) (by omega)), fX8_goCures_11, if_pos (nI_le (by omega) (by omega))]
      exact ⟨0, acts, hh, wa, ww, sa, hr, il, ro, nw, tn, ah, ha0, rfl, H, Or.inl ⟨rfl, rs, rfl⟩⟩
