set_option maxHeartbeats 4000000 in
set_option maxRecDepth 100000 in
theorem kX7_judge (l : Launch) (D : va_G) (G : Nat → ClassId) (fu : Nat) (q_t q_t_house q_t_images q_t_pad q_t_trial q_t_placing q_t_seating q_t_chance q_t_house_ills q_t_house_roomOf q_t_house_effects q_t_house_badFor q_t_house_likes q_t_house_sights q_t_house_sights_before q_t_house_sights_hours q_t_house_sights_after q_t_pad_signs q_t_trial_house q_t_trial_house_ills q_t_trial_house_roomOf q_t_trial_house_effects q_t_trial_house_badFor q_t_trial_house_likes q_t_trial_house_sights q_t_trial_house_sights_before q_t_trial_house_sights_hours q_t_trial_house_sights_after : Nat) (t_house_there : Int32) (t_house_sat : Int32) (t_house_hour : Int32) (t_house_ills : Nat → Int32) (t_house_roomOf : Nat → Int32) (t_house_effects : Nat → Int32) (t_house_badFor : Nat → Int32) (t_house_likes : Nat → Int32) (t_house_sights_count : Int32) (t_house_sights_before : Nat → Int32) (t_house_sights_hours : Nat → Int32) (t_house_sights_after : Nat → Int32) (t_pad_length : Int32) (t_pad_signs : Nat → Int32) (t_trial_acts : Int32) (t_trial_why : Int32) (t_trial_hours : Int32) (t_trial_worseHour : Int32) (t_trial_worsePiece : Int32) (t_trial_house_there : Int32) (t_trial_house_sat : Int32) (t_trial_house_hour : Int32) (t_trial_house_ills : Nat → Int32) (t_trial_house_roomOf : Nat → Int32) (t_trial_house_effects : Nat → Int32) (t_trial_house_badFor : Nat → Int32) (t_trial_house_likes : Nat → Int32) (t_trial_house_sights_count : Int32) (t_trial_house_sights_before : Nat → Int32) (t_trial_house_sights_hours : Nat → Int32) (t_trial_house_sights_after : Nat → Int32) (v1 : Int32) {r : Int32} {o_t_trial_acts : Int32} {o_t_trial_why : Int32} {o_t_trial_hours : Int32} {o_t_trial_worseHour : Int32} {o_t_trial_worsePiece : Int32} {o_t_trial_house_there : Int32} {o_t_trial_house_sat : Int32} {o_t_trial_house_hour : Int32} {o_t_trial_house_ills : Nat → Int32} {o_t_trial_house_roomOf : Nat → Int32} {o_t_trial_house_effects : Nat → Int32} {o_t_trial_house_badFor : Nat → Int32} {o_t_trial_house_likes : Nat → Int32} {o_t_trial_house_sights_count : Int32} {o_t_trial_house_sights_before : Nat → Int32} {o_t_trial_house_sights_hours : Nat → Int32} {o_t_trial_house_sights_after : Nat → Int32} (hf : fX7_judge fu t_house_there t_house_sat t_house_hour t_house_ills t_house_roomOf t_house_effects t_house_badFor t_house_likes t_house_sights_count t_house_sights_before t_house_sights_hours t_house_sights_after t_pad_length t_pad_signs t_trial_acts t_trial_why t_trial_hours t_trial_worseHour t_trial_worsePiece t_trial_house_there t_trial_house_sat t_trial_house_hour t_trial_house_ills t_trial_house_roomOf t_trial_house_effects t_trial_house_badFor t_trial_house_likes t_trial_house_sights_count t_trial_house_sights_before t_trial_house_sights_hours t_trial_house_sights_after v1 = some (r, o_t_trial_acts, o_t_trial_why, o_t_trial_hours, o_t_trial_worseHour, o_t_trial_worsePiece, o_t_trial_house_there, o_t_trial_house_sat, o_t_trial_house_hour, o_t_trial_house_ills, o_t_trial_house_roomOf, o_t_trial_house_effects, o_t_trial_house_badFor, o_t_trial_house_likes, o_t_trial_house_sights_count, o_t_trial_house_sights_before, o_t_trial_house_sights_hours, o_t_trial_house_sights_after)) : rW l D G yX7_judge cX7_judge 2 (some .int) 6 208 [.ref q_t, .int v1] [(q_t, .inr (7, [.ref q_t_house, .ref q_t_images, .ref q_t_pad, .ref q_t_trial, .ref q_t_placing, .ref q_t_seating, .ref q_t_chance])), (q_t_house, .inr (1, [.int t_house_there, .int t_house_sat, .int t_house_hour, .ref q_t_house_ills, .ref q_t_house_roomOf, .ref q_t_house_effects, .ref q_t_house_badFor, .ref q_t_house_likes, .ref q_t_house_sights])), (q_t_house_ills, .inl (G 0, 18, .inl t_house_ills)), (q_t_house_roomOf, .inl (G 0, 6, .inl t_house_roomOf)), (q_t_house_effects, .inl (G 0, 12, .inl t_house_effects)), (q_t_house_badFor, .inl (G 0, 36, .inl t_house_badFor)), (q_t_house_likes, .inl (G 0, 6, .inl t_house_likes)), (q_t_house_sights, .inr (5, [.int t_house_sights_count, .ref q_t_house_sights_before, .ref q_t_house_sights_hours, .ref q_t_house_sights_after])), (q_t_house_sights_before, .inl (G 0, 8, .inl t_house_sights_before)), (q_t_house_sights_hours, .inl (G 0, 8, .inl t_house_sights_hours)), (q_t_house_sights_after, .inl (G 0, 8, .inl t_house_sights_after)), (q_t_pad, .inr (2, [.int t_pad_length, .ref q_t_pad_signs])), (q_t_pad_signs, .inl (G 0, 60, .inl t_pad_signs)), (q_t_trial, .inr (6, [.ref q_t_trial_house, .int t_trial_acts, .int t_trial_why, .int t_trial_hours, .int t_trial_worseHour, .int t_trial_worsePiece])), (q_t_trial_house, .inr (1, [.int t_trial_house_there, .int t_trial_house_sat, .int t_trial_house_hour, .ref q_t_trial_house_ills, .ref q_t_trial_house_roomOf, .ref q_t_trial_house_effects, .ref q_t_trial_house_badFor, .ref q_t_trial_house_likes, .ref q_t_trial_house_sights])), (q_t_trial_house_ills, .inl (G 0, 18, .inl t_trial_house_ills)), (q_t_trial_house_roomOf, .inl (G 0, 6, .inl t_trial_house_roomOf)), (q_t_trial_house_effects, .inl (G 0, 12, .inl t_trial_house_effects)), (q_t_trial_house_badFor, .inl (G 0, 36, .inl t_trial_house_badFor)), (q_t_trial_house_likes, .inl (G 0, 6, .inl t_trial_house_likes)), (q_t_trial_house_sights, .inr (5, [.int t_trial_house_sights_count, .ref q_t_trial_house_sights_before, .ref q_t_trial_house_sights_hours, .ref q_t_trial_house_sights_after])), (q_t_trial_house_sights_before, .inl (G 0, 8, .inl t_trial_house_sights_before)), (q_t_trial_house_sights_hours, .inl (G 0, 8, .inl t_trial_house_sights_hours)), (q_t_trial_house_sights_after, .inl (G 0, 8, .inl t_trial_house_sights_after))] [(q_t, .inr (7, [.ref q_t_house, .ref q_t_images, .ref q_t_pad, .ref q_t_trial, .ref q_t_placing, .ref q_t_seating, .ref q_t_chance])), (q_t_house, .inr (1, [.int t_house_there, .int t_house_sat, .int t_house_hour, .ref q_t_house_ills, .ref q_t_house_roomOf, .ref q_t_house_effects, .ref q_t_house_badFor, .ref q_t_house_likes, .ref q_t_house_sights])), (q_t_house_ills, .inl (G 0, 18, .inl t_house_ills)), (q_t_house_roomOf, .inl (G 0, 6, .inl t_house_roomOf)), (q_t_house_effects, .inl (G 0, 12, .inl t_house_effects)), (q_t_house_badFor, .inl (G 0, 36, .inl t_house_badFor)), (q_t_house_likes, .inl (G 0, 6, .inl t_house_likes)), (q_t_house_sights, .inr (5, [.int t_house_sights_count, .ref q_t_house_sights_before, .ref q_t_house_sights_hours, .ref q_t_house_sights_after])), (q_t_house_sights_before, .inl (G 0, 8, .inl t_house_sights_before)), (q_t_house_sights_hours, .inl (G 0, 8, .inl t_house_sights_hours)), (q_t_house_sights_after, .inl (G 0, 8, .inl t_house_sights_after)), (q_t_pad, .inr (2, [.int t_pad_length, .ref q_t_pad_signs])), (q_t_pad_signs, .inl (G 0, 60, .inl t_pad_signs)), (q_t_trial, .inr (6, [.ref q_t_trial_house, .int o_t_trial_acts, .int o_t_trial_why, .int o_t_trial_hours, .int o_t_trial_worseHour, .int o_t_trial_worsePiece])), (q_t_trial_house, .inr (1, [.int o_t_trial_house_there, .int o_t_trial_house_sat, .int o_t_trial_house_hour, .ref q_t_trial_house_ills, .ref q_t_trial_house_roomOf, .ref q_t_trial_house_effects, .ref q_t_trial_house_badFor, .ref q_t_trial_house_likes, .ref q_t_trial_house_sights])), (q_t_trial_house_ills, .inl (G 0, 18, .inl o_t_trial_house_ills)), (q_t_trial_house_roomOf, .inl (G 0, 6, .inl o_t_trial_house_roomOf)), (q_t_trial_house_effects, .inl (G 0, 12, .inl o_t_trial_house_effects)), (q_t_trial_house_badFor, .inl (G 0, 36, .inl o_t_trial_house_badFor)), (q_t_trial_house_likes, .inl (G 0, 6, .inl o_t_trial_house_likes)), (q_t_trial_house_sights, .inr (5, [.int o_t_trial_house_sights_count, .ref q_t_trial_house_sights_before, .ref q_t_trial_house_sights_hours, .ref q_t_trial_house_sights_after])), (q_t_trial_house_sights_before, .inl (G 0, 8, .inl o_t_trial_house_sights_before)), (q_t_trial_house_sights_hours, .inl (G 0, 8, .inl o_t_trial_house_sights_hours)), (q_t_trial_house_sights_after, .inl (G 0, 8, .inl o_t_trial_house_sights_after))] (some (.int r)) := by
  refine rW_of (by decide) (Nat.le_of_ble_eq_true rfl) ?_
  intro p e s m args below meth c Q A hx hb hml hown hts hK hn hA RET H locs hP hD hS ls hl
  have RT : ∀ (a0_ : Int32) (a1_ : Int32) (a2_ : Int32) (a3_ : Int32) (a4_ : Int32) (a5_ : Int32) (a6_ : Int32) (a7_ : Int32) (a8_ : Int32) (a9_ : Nat → Int32) (a10_ : Nat → Int32) (a11_ : Nat → Int32) (a12_ : Nat → Int32) (a13_ : Nat → Int32) (a14_ : Int32) (a15_ : Nat → Int32) (a16_ : Nat → Int32) (a17_ : Nat → Int32), some (a0_, a1_, a2_, a3_, a4_, a5_, a6_, a7_, a8_, a9_, a10_, a11_, a12_, a13_, a14_, a15_, a16_, a17_) = some (r, o_t_trial_acts, o_t_trial_why, o_t_trial_hours, o_t_trial_worseHour, o_t_trial_worsePiece, o_t_trial_house_there, o_t_trial_house_sat, o_t_trial_house_hour, o_t_trial_house_ills, o_t_trial_house_roomOf, o_t_trial_house_effects, o_t_trial_house_badFor, o_t_trial_house_likes, o_t_trial_house_sights_count, o_t_trial_house_sights_before, o_t_trial_house_sights_hours, o_t_trial_house_sights_after) → ∀ (pc : Nat) (ls : Array Slot) (ins : Instr) (H : Heap) (locs : List Loc), decode cX7_judge pc = .ok (ins, 1) → rk (some .int) (some (.int a0_)) ins → va_P D vwCl [(q_t, .inr (7, [.ref q_t_house, .ref q_t_images, .ref q_t_pad, .ref q_t_trial, .ref q_t_placing, .ref q_t_seating, .ref q_t_chance])), (q_t_house, .inr (1, [.int t_house_there, .int t_house_sat, .int t_house_hour, .ref q_t_house_ills, .ref q_t_house_roomOf, .ref q_t_house_effects, .ref q_t_house_badFor, .ref q_t_house_likes, .ref q_t_house_sights])), (q_t_house_ills, .inl (G 0, 18, .inl t_house_ills)), (q_t_house_roomOf, .inl (G 0, 6, .inl t_house_roomOf)), (q_t_house_effects, .inl (G 0, 12, .inl t_house_effects)), (q_t_house_badFor, .inl (G 0, 36, .inl t_house_badFor)), (q_t_house_likes, .inl (G 0, 6, .inl t_house_likes)), (q_t_house_sights, .inr (5, [.int t_house_sights_count, .ref q_t_house_sights_before, .ref q_t_house_sights_hours, .ref q_t_house_sights_after])), (q_t_house_sights_before, .inl (G 0, 8, .inl t_house_sights_before)), (q_t_house_sights_hours, .inl (G 0, 8, .inl t_house_sights_hours)), (q_t_house_sights_after, .inl (G 0, 8, .inl t_house_sights_after)), (q_t_pad, .inr (2, [.int t_pad_length, .ref q_t_pad_signs])), (q_t_pad_signs, .inl (G 0, 60, .inl t_pad_signs)), (q_t_trial, .inr (6, [.ref q_t_trial_house, .int a1_, .int a2_, .int a3_, .int a4_, .int a5_])), (q_t_trial_house, .inr (1, [.int a6_, .int a7_, .int a8_, .ref q_t_trial_house_ills, .ref q_t_trial_house_roomOf, .ref q_t_trial_house_effects, .ref q_t_trial_house_badFor, .ref q_t_trial_house_likes, .ref q_t_trial_house_sights])), (q_t_trial_house_ills, .inl (G 0, 18, .inl a9_)), (q_t_trial_house_roomOf, .inl (G 0, 6, .inl a10_)), (q_t_trial_house_effects, .inl (G 0, 12, .inl a11_)), (q_t_trial_house_badFor, .inl (G 0, 36, .inl a12_)), (q_t_trial_house_likes, .inl (G 0, 6, .inl a13_)), (q_t_trial_house_sights, .inr (5, [.int a14_, .ref q_t_trial_house_sights_before, .ref q_t_trial_house_sights_hours, .ref q_t_trial_house_sights_after])), (q_t_trial_house_sights_before, .inl (G 0, 8, .inl a15_)), (q_t_trial_house_sights_hours, .inl (G 0, 8, .inl a16_)), (q_t_trial_house_sights_after, .inl (G 0, 8, .inl a17_))] H → va_D A [(q_t, .inr (7, [.ref q_t_house, .ref q_t_images, .ref q_t_pad, .ref q_t_trial, .ref q_t_placing, .ref q_t_seating, .ref q_t_chance])), (q_t_house, .inr (1, [.int t_house_there, .int t_house_sat, .int t_house_hour, .ref q_t_house_ills, .ref q_t_house_roomOf, .ref q_t_house_effects, .ref q_t_house_badFor, .ref q_t_house_likes, .ref q_t_house_sights])), (q_t_house_ills, .inl (G 0, 18, .inl t_house_ills)), (q_t_house_roomOf, .inl (G 0, 6, .inl t_house_roomOf)), (q_t_house_effects, .inl (G 0, 12, .inl t_house_effects)), (q_t_house_badFor, .inl (G 0, 36, .inl t_house_badFor)), (q_t_house_likes, .inl (G 0, 6, .inl t_house_likes)), (q_t_house_sights, .inr (5, [.int t_house_sights_count, .ref q_t_house_sights_before, .ref q_t_house_sights_hours, .ref q_t_house_sights_after])), (q_t_house_sights_before, .inl (G 0, 8, .inl t_house_sights_before)), (q_t_house_sights_hours, .inl (G 0, 8, .inl t_house_sights_hours)), (q_t_house_sights_after, .inl (G 0, 8, .inl t_house_sights_after)), (q_t_pad, .inr (2, [.int t_pad_length, .ref q_t_pad_signs])), (q_t_pad_signs, .inl (G 0, 60, .inl t_pad_signs)), (q_t_trial, .inr (6, [.ref q_t_trial_house, .int a1_, .int a2_, .int a3_, .int a4_, .int a5_])), (q_t_trial_house, .inr (1, [.int a6_, .int a7_, .int a8_, .ref q_t_trial_house_ills, .ref q_t_trial_house_roomOf, .ref q_t_trial_house_effects, .ref q_t_trial_house_badFor, .ref q_t_trial_house_likes, .ref q_t_trial_house_sights])), (q_t_trial_house_ills, .inl (G 0, 18, .inl a9_)), (q_t_trial_house_roomOf, .inl (G 0, 6, .inl a10_)), (q_t_trial_house_effects, .inl (G 0, 12, .inl a11_)), (q_t_trial_house_badFor, .inl (G 0, 36, .inl a12_)), (q_t_trial_house_likes, .inl (G 0, 6, .inl a13_)), (q_t_trial_house_sights, .inr (5, [.int a14_, .ref q_t_trial_house_sights_before, .ref q_t_trial_house_sights_hours, .ref q_t_trial_house_sights_after])), (q_t_trial_house_sights_before, .inl (G 0, 8, .inl a15_)), (q_t_trial_house_sights_hours, .inl (G 0, 8, .inl a16_)), (q_t_trial_house_sights_after, .inl (G 0, 8, .inl a17_))] → va_S A s.heap H locs → W p l e (kR 6 208) s m args below meth c H locs 0 0 Q (F0 m pc ls [.int a0_]) := by
    intro a0_ a1_ a2_ a3_ a4_ a5_ a6_ a7_ a8_ a9_ a10_ a11_ a12_ a13_ a14_ a15_ a16_ a17_ hy; obtain ⟨rfl, rfl, rfl, rfl, rfl, rfl, rfl, rfl, rfl, rfl, rfl, rfl, rfl, rfl, rfl, rfl, rfl, rfl⟩ := sm18 hy
    exact RET
  have hown : s.vm.findClass RX7 = some m.cls := hown
  have hl : lv_has ls 2 [(0, .ref q_t), (1, .int v1)] := hl
  clear RET
  rw [fX7_judge] at hf
  refine lv_iload_n hx hb dX7_judge_0 rfl (lv_at hl 1 rfl) ?_
  refine lv_iconst (v := (2 : Int32)) hx hb dX7_judge_1 (by decide) ?_
  obtain ⟨r1, h2, hf⟩ := bd1E hf
  refine kO_stat hx hb hml hown hts hK hn hP (kX7_isAmong l D G v1 (2 : Int32) h2) csX7_55 ⟨Nat.le_of_ble_eq_true rfl, Nat.le_of_ble_eq_true rfl⟩ [] rfl rfl hl.1 rfl (Nat.le_of_ble_eq_true rfl) ⟨Nat.zero_le _, Nat.zero_le _⟩ dX7_judge_2 ?_
  refine lv_if_ne (tgt := 11) hx hb dX7_judge_5 (by decide) (fun c3 => ?_) (fun c3 => ?_)
  · have hf := ifn c3 hf
    refine lv_aload_n hx hb dX7_judge_11 rfl (lv_at hl 0 rfl) ?_
    refine va_get (D := D) (ci := 7) (v := .ref q_t_pad) (C := RX7) (T := TX7) (N := 7) hx hb hts inX7 hown hK hP 0 rfl rfl 2 (by decide) (hts _ lfX7_23) (fun _ h9 => h9) rfl dX7_judge_12 ?_
    obtain ⟨r4, h5, hf⟩ := bd1E hf
    refine kO_virt hx hb hml hown hts hK hn hP (kX2_firstFault l D G fu q_t_pad q_t_pad_signs t_pad_length t_pad_signs h5) cvX7_105 ⟨Nat.le_of_ble_eq_true rfl, Nat.le_of_ble_eq_true rfl⟩ [11, 12] rfl 11 rfl rfl rfl hl.1 rfl (Nat.le_of_ble_eq_true rfl) ⟨Nat.zero_le _, Nat.zero_le _⟩ dX7_judge_15 ?_
    refine lv_bipush (v := (-6 : Int32)) hx hb dX7_judge_18 (by decide) ?_
    refine lv_icmp_eq (tgt := 26) hx hb dX7_judge_20 (by decide) (fun c6 => ?_) (fun c6 => ?_)
    · have hf := ifp c6 hf
      refine lv_aload_n hx hb dX7_judge_26 rfl (lv_at hl 0 rfl) ?_
      refine va_get (D := D) (ci := 7) (v := .ref q_t_trial) (C := RX7) (T := TX7) (N := 7) hx hb hts inX7 hown hK hP 0 rfl rfl 3 (by decide) (hts _ lfX7_30) (fun _ h9 => h9) rfl dX7_judge_27 ?_
      refine lv_aload_n hx hb dX7_judge_30 rfl (lv_at hl 0 rfl) ?_
      refine va_get (D := D) (ci := 7) (v := .ref q_t_pad) (C := RX7) (T := TX7) (N := 7) hx hb hts inX7 hown hK hP 0 rfl rfl 2 (by decide) (hts _ lfX7_23) (fun _ h9 => h9) rfl dX7_judge_31 ?_
      refine lv_aload_n hx hb dX7_judge_34 rfl (lv_at hl 0 rfl) ?_
      refine va_get (D := D) (ci := 7) (v := .ref q_t_house) (C := RX7) (T := TX7) (N := 7) hx hb hts inX7 hown hK hP 0 rfl rfl 0 (by decide) (hts _ lfX7_12) (fun _ h9 => h9) rfl dX7_judge_35 ?_
      obtain ⟨o7, o8, o9, o10, o11, o12, o13, o14, o15, o16, o17, o18, o19, o20, o21, o22, o23, h24, hf⟩ := bd17E hf
      refine kW_virt0 hx hb hml hown hts hK hn hA hP hD hS (kX6_follow l D G fu q_t_trial q_t_pad q_t_house q_t_trial_house q_t_trial_house_ills q_t_trial_house_roomOf q_t_trial_house_effects q_t_trial_house_badFor q_t_trial_house_likes q_t_trial_house_sights q_t_trial_house_sights_before q_t_trial_house_sights_hours q_t_trial_house_sights_after q_t_pad_signs q_t_house_ills q_t_house_roomOf q_t_house_effects q_t_house_badFor q_t_house_likes q_t_house_sights q_t_house_sights_before q_t_house_sights_hours q_t_house_sights_after t_trial_acts t_trial_why t_trial_hours t_trial_worseHour t_trial_worsePiece t_trial_house_there t_trial_house_sat t_trial_house_hour t_trial_house_ills t_trial_house_roomOf t_trial_house_effects t_trial_house_badFor t_trial_house_likes t_trial_house_sights_count t_trial_house_sights_before t_trial_house_sights_hours t_trial_house_sights_after t_pad_length t_pad_signs t_house_there t_house_sat t_house_hour t_house_ills t_house_roomOf t_house_effects t_house_badFor t_house_likes t_house_sights_count t_house_sights_before t_house_sights_hours t_house_sights_after h24) cvX7_109 ⟨Nat.le_of_ble_eq_true rfl, Nat.le_of_ble_eq_true rfl⟩ [13, 14, 15, 16, 17, 18, 19, 20, 21, 22, 23, 11, 12, 1, 2, 3, 4, 5, 6, 7, 8, 9, 10] rfl rfl [false, true, true, true, true, true, true, true, true, true, true, true, true, true, true, true, true, true, true, true, true, true, true, true] rfl (w3 := [(q_t_house, .inr (1, [.int t_house_there, .int t_house_sat, .int t_house_hour, .ref q_t_house_ills, .ref q_t_house_roomOf, .ref q_t_house_effects, .ref q_t_house_badFor, .ref q_t_house_likes, .ref q_t_house_sights])), (q_t_house_ills, .inl (G 0, 18, .inl t_house_ills)), (q_t_house_roomOf, .inl (G 0, 6, .inl t_house_roomOf)), (q_t_house_effects, .inl (G 0, 12, .inl t_house_effects)), (q_t_house_badFor, .inl (G 0, 36, .inl t_house_badFor)), (q_t_house_likes, .inl (G 0, 6, .inl t_house_likes)), (q_t_house_sights, .inr (5, [.int t_house_sights_count, .ref q_t_house_sights_before, .ref q_t_house_sights_hours, .ref q_t_house_sights_after])), (q_t_house_sights_before, .inl (G 0, 8, .inl t_house_sights_before)), (q_t_house_sights_hours, .inl (G 0, 8, .inl t_house_sights_hours)), (q_t_house_sights_after, .inl (G 0, 8, .inl t_house_sights_after)), (q_t_pad, .inr (2, [.int t_pad_length, .ref q_t_pad_signs])), (q_t_pad_signs, .inl (G 0, 60, .inl t_pad_signs)), (q_t_trial, .inr (6, [.ref q_t_trial_house, .int o7, .int o8, .int o9, .int o10, .int o11])), (q_t_trial_house, .inr (1, [.int o12, .int o13, .int o14, .ref q_t_trial_house_ills, .ref q_t_trial_house_roomOf, .ref q_t_trial_house_effects, .ref q_t_trial_house_badFor, .ref q_t_trial_house_likes, .ref q_t_trial_house_sights])), (q_t_trial_house_ills, .inl (G 0, 18, .inl o15)), (q_t_trial_house_roomOf, .inl (G 0, 6, .inl o16)), (q_t_trial_house_effects, .inl (G 0, 12, .inl o17)), (q_t_trial_house_badFor, .inl (G 0, 36, .inl o18)), (q_t_trial_house_likes, .inl (G 0, 6, .inl o19)), (q_t_trial_house_sights, .inr (5, [.int o20, .ref q_t_trial_house_sights_before, .ref q_t_trial_house_sights_hours, .ref q_t_trial_house_sights_after])), (q_t_trial_house_sights_before, .inl (G 0, 8, .inl o21)), (q_t_trial_house_sights_hours, .inl (G 0, 8, .inl o22)), (q_t_trial_house_sights_after, .inl (G 0, 8, .inl o23))]) [13, 14, 15, 16, 17, 18, 19, 20, 21, 22, 11, 12, 0, 1, 2, 3, 4, 5, 6, 7, 8, 9, 10] rfl rfl 13 rfl rfl rfl hl.1 rfl (Nat.le_of_ble_eq_true rfl) ⟨Nat.zero_le _, Nat.zero_le _⟩ dX7_judge_38 (fun H locs hP hD hS => ?_)
      have hP : va_P D vwCl [(q_t, .inr (7, [.ref q_t_house, .ref q_t_images, .ref q_t_pad, .ref q_t_trial, .ref q_t_placing, .ref q_t_seating, .ref q_t_chance])), (q_t_house, .inr (1, [.int t_house_there, .int t_house_sat, .int t_house_hour, .ref q_t_house_ills, .ref q_t_house_roomOf, .ref q_t_house_effects, .ref q_t_house_badFor, .ref q_t_house_likes, .ref q_t_house_sights])), (q_t_house_ills, .inl (G 0, 18, .inl t_house_ills)), (q_t_house_roomOf, .inl (G 0, 6, .inl t_house_roomOf)), (q_t_house_effects, .inl (G 0, 12, .inl t_house_effects)), (q_t_house_badFor, .inl (G 0, 36, .inl t_house_badFor)), (q_t_house_likes, .inl (G 0, 6, .inl t_house_likes)), (q_t_house_sights, .inr (5, [.int t_house_sights_count, .ref q_t_house_sights_before, .ref q_t_house_sights_hours, .ref q_t_house_sights_after])), (q_t_house_sights_before, .inl (G 0, 8, .inl t_house_sights_before)), (q_t_house_sights_hours, .inl (G 0, 8, .inl t_house_sights_hours)), (q_t_house_sights_after, .inl (G 0, 8, .inl t_house_sights_after)), (q_t_pad, .inr (2, [.int t_pad_length, .ref q_t_pad_signs])), (q_t_pad_signs, .inl (G 0, 60, .inl t_pad_signs)), (q_t_trial, .inr (6, [.ref q_t_trial_house, .int o7, .int o8, .int o9, .int o10, .int o11])), (q_t_trial_house, .inr (1, [.int o12, .int o13, .int o14, .ref q_t_trial_house_ills, .ref q_t_trial_house_roomOf, .ref q_t_trial_house_effects, .ref q_t_trial_house_badFor, .ref q_t_trial_house_likes, .ref q_t_trial_house_sights])), (q_t_trial_house_ills, .inl (G 0, 18, .inl o15)), (q_t_trial_house_roomOf, .inl (G 0, 6, .inl o16)), (q_t_trial_house_effects, .inl (G 0, 12, .inl o17)), (q_t_trial_house_badFor, .inl (G 0, 36, .inl o18)), (q_t_trial_house_likes, .inl (G 0, 6, .inl o19)), (q_t_trial_house_sights, .inr (5, [.int o20, .ref q_t_trial_house_sights_before, .ref q_t_trial_house_sights_hours, .ref q_t_trial_house_sights_after])), (q_t_trial_house_sights_before, .inl (G 0, 8, .inl o21)), (q_t_trial_house_sights_hours, .inl (G 0, 8, .inl o22)), (q_t_trial_house_sights_after, .inl (G 0, 8, .inl o23))] H := hP
      have hD : va_D A [(q_t, .inr (7, [.ref q_t_house, .ref q_t_images, .ref q_t_pad, .ref q_t_trial, .ref q_t_placing, .ref q_t_seating, .ref q_t_chance])), (q_t_house, .inr (1, [.int t_house_there, .int t_house_sat, .int t_house_hour, .ref q_t_house_ills, .ref q_t_house_roomOf, .ref q_t_house_effects, .ref q_t_house_badFor, .ref q_t_house_likes, .ref q_t_house_sights])), (q_t_house_ills, .inl (G 0, 18, .inl t_house_ills)), (q_t_house_roomOf, .inl (G 0, 6, .inl t_house_roomOf)), (q_t_house_effects, .inl (G 0, 12, .inl t_house_effects)), (q_t_house_badFor, .inl (G 0, 36, .inl t_house_badFor)), (q_t_house_likes, .inl (G 0, 6, .inl t_house_likes)), (q_t_house_sights, .inr (5, [.int t_house_sights_count, .ref q_t_house_sights_before, .ref q_t_house_sights_hours, .ref q_t_house_sights_after])), (q_t_house_sights_before, .inl (G 0, 8, .inl t_house_sights_before)), (q_t_house_sights_hours, .inl (G 0, 8, .inl t_house_sights_hours)), (q_t_house_sights_after, .inl (G 0, 8, .inl t_house_sights_after)), (q_t_pad, .inr (2, [.int t_pad_length, .ref q_t_pad_signs])), (q_t_pad_signs, .inl (G 0, 60, .inl t_pad_signs)), (q_t_trial, .inr (6, [.ref q_t_trial_house, .int o7, .int o8, .int o9, .int o10, .int o11])), (q_t_trial_house, .inr (1, [.int o12, .int o13, .int o14, .ref q_t_trial_house_ills, .ref q_t_trial_house_roomOf, .ref q_t_trial_house_effects, .ref q_t_trial_house_badFor, .ref q_t_trial_house_likes, .ref q_t_trial_house_sights])), (q_t_trial_house_ills, .inl (G 0, 18, .inl o15)), (q_t_trial_house_roomOf, .inl (G 0, 6, .inl o16)), (q_t_trial_house_effects, .inl (G 0, 12, .inl o17)), (q_t_trial_house_badFor, .inl (G 0, 36, .inl o18)), (q_t_trial_house_likes, .inl (G 0, 6, .inl o19)), (q_t_trial_house_sights, .inr (5, [.int o20, .ref q_t_trial_house_sights_before, .ref q_t_trial_house_sights_hours, .ref q_t_trial_house_sights_after])), (q_t_trial_house_sights_before, .inl (G 0, 8, .inl o21)), (q_t_trial_house_sights_hours, .inl (G 0, 8, .inl o22)), (q_t_trial_house_sights_after, .inl (G 0, 8, .inl o23))] := hD
      refine lv_aload_n hx hb dX7_judge_41 rfl (lv_at hl 0 rfl) ?_
      refine va_get (D := D) (ci := 7) (v := .ref q_t_trial) (C := RX7) (T := TX7) (N := 7) hx hb hts inX7 hown hK hP 0 rfl rfl 3 (by decide) (hts _ lfX7_30) (fun _ h9 => h9) rfl dX7_judge_42 ?_
      refine va_get (D := D) (ci := 6) (v := .int o8) (C := RX6) (T := TX6) (N := 6) hx hb hts inX6 hown hK hP 13 rfl rfl 2 (by decide) (hts _ lfX7_113) (fun _ h9 => h9) rfl dX7_judge_45 ?_
      refine lv_if_ne (tgt := 54) hx hb dX7_judge_48 (by decide) (fun c25 => ?_) (fun c25 => ?_)
      · have hf := ifn c25 hf
        refine lv_iload_n hx hb dX7_judge_54 rfl (lv_at hl 1 rfl) ?_
        refine lv_if_ne (tgt := 68) hx hb dX7_judge_55 (by decide) (fun c26 => ?_) (fun c26 => ?_)
        · have hf := ifn c26 hf
          refine lv_aload_n hx hb dX7_judge_68 rfl (lv_at hl 0 rfl) ?_
          refine va_get (D := D) (ci := 7) (v := .ref q_t_trial) (C := RX7) (T := TX7) (N := 7) hx hb hts inX7 hown hK hP 0 rfl rfl 3 (by decide) (hts _ lfX7_30) (fun _ h9 => h9) rfl dX7_judge_69 ?_
          refine va_get (D := D) (ci := 6) (v := .int o8) (C := RX6) (T := TX6) (N := 6) hx hb hts inX6 hown hK hP 13 rfl rfl 2 (by decide) (hts _ lfX7_113) (fun _ h9 => h9) rfl dX7_judge_72 ?_
          exact RT _ _ _ _ _ _ _ _ _ _ _ _ _ _ _ _ _ _ hf _ _ _ H locs dX7_judge_75 (rkI _) hP hD hS
        · have hf := ifp c26 hf
          refine lv_aload_n hx hb dX7_judge_58 rfl (lv_at hl 0 rfl) ?_
          refine va_get (D := D) (ci := 7) (v := .ref q_t_trial) (C := RX7) (T := TX7) (N := 7) hx hb hts inX7 hown hK hP 0 rfl rfl 3 (by decide) (hts _ lfX7_30) (fun _ h9 => h9) rfl dX7_judge_59 ?_
          refine va_get (D := D) (ci := 6) (v := .int o7) (C := RX6) (T := TX6) (N := 6) hx hb hts inX6 hown hK hP 13 rfl rfl 1 (by decide) (hts _ lfX7_116) (fun _ h9 => h9) rfl dX7_judge_62 ?_
          refine lv_goto (tgt := 75) hx hb dX7_judge_65 (by decide) ?_
          exact RT _ _ _ _ _ _ _ _ _ _ _ _ _ _ _ _ _ _ hf _ _ _ H locs dX7_judge_75 (rkI _) hP hD hS
      · have hf := ifp c25 hf
        refine lv_bipush (v := (-6 : Int32)) hx hb dX7_judge_51 (by decide) ?_
        exact RT _ _ _ _ _ _ _ _ _ _ _ _ _ _ _ _ _ _ hf _ _ _ H locs dX7_judge_53 (rkI _) hP hD hS
    · have hf := ifn c6 hf
      refine lv_bipush (v := (-5 : Int32)) hx hb dX7_judge_23 (by decide) ?_
      exact RT _ _ _ _ _ _ _ _ _ _ _ _ _ _ _ _ _ _ hf _ _ _ H locs dX7_judge_25 (rkI _) hP hD hS
  · have hf := ifp c3 hf
    refine lv_bipush (v := (-2 : Int32)) hx hb dX7_judge_8 (by decide) ?_
    exact RT _ _ _ _ _ _ _ _ _ _ _ _ _ _ _ _ _ _ hf _ _ _ H locs dX7_judge_10 (rkI _) hP hD hS
set_option maxHeartbeats 4000000 in
set_option maxRecDepth 100000 in
theorem kX7_leave (l : Launch) (D : va_G) (G : Nat → ClassId) (q_t q_t_house q_t_images q_t_pad q_t_trial q_t_placing q_t_seating q_t_chance q_t_house_ills q_t_house_roomOf q_t_house_effects q_t_house_badFor q_t_house_likes q_t_house_sights : Nat) (t_house_there : Int32) (t_house_sat : Int32) (t_house_hour : Int32) (v1 : Int32) {r : Int32} {o_t_house_there : Int32} {o_t_house_sat : Int32} (hf : fX7_leave t_house_there t_house_sat v1 = some (r, o_t_house_there, o_t_house_sat)) : rW l D G yX7_leave cX7_leave 2 (some .int) 2 81 [.ref q_t, .int v1] [(q_t, .inr (7, [.ref q_t_house, .ref q_t_images, .ref q_t_pad, .ref q_t_trial, .ref q_t_placing, .ref q_t_seating, .ref q_t_chance])), (q_t_house, .inr (1, [.int t_house_there, .int t_house_sat, .int t_house_hour, .ref q_t_house_ills, .ref q_t_house_roomOf, .ref q_t_house_effects, .ref q_t_house_badFor, .ref q_t_house_likes, .ref q_t_house_sights]))] [(q_t, .inr (7, [.ref q_t_house, .ref q_t_images, .ref q_t_pad, .ref q_t_trial, .ref q_t_placing, .ref q_t_seating, .ref q_t_chance])), (q_t_house, .inr (1, [.int o_t_house_there, .int o_t_house_sat, .int t_house_hour, .ref q_t_house_ills, .ref q_t_house_roomOf, .ref q_t_house_effects, .ref q_t_house_badFor, .ref q_t_house_likes, .ref q_t_house_sights]))] (some (.int r)) := by
  refine rW_of (by decide) (Nat.le_of_ble_eq_true rfl) ?_
  intro p e s m args below meth c Q A hx hb hml hown hts hK hn hA RET H locs hP hD hS ls hl
  have RT : ∀ (a0_ : Int32) (a1_ : Int32) (a2_ : Int32), some (a0_, a1_, a2_) = some (r, o_t_house_there, o_t_house_sat) → ∀ (pc : Nat) (ls : Array Slot) (ins : Instr) (H : Heap) (locs : List Loc), decode cX7_leave pc = .ok (ins, 1) → rk (some .int) (some (.int a0_)) ins → va_P D vwCl [(q_t, .inr (7, [.ref q_t_house, .ref q_t_images, .ref q_t_pad, .ref q_t_trial, .ref q_t_placing, .ref q_t_seating, .ref q_t_chance])), (q_t_house, .inr (1, [.int a1_, .int a2_, .int t_house_hour, .ref q_t_house_ills, .ref q_t_house_roomOf, .ref q_t_house_effects, .ref q_t_house_badFor, .ref q_t_house_likes, .ref q_t_house_sights]))] H → va_D A [(q_t, .inr (7, [.ref q_t_house, .ref q_t_images, .ref q_t_pad, .ref q_t_trial, .ref q_t_placing, .ref q_t_seating, .ref q_t_chance])), (q_t_house, .inr (1, [.int a1_, .int a2_, .int t_house_hour, .ref q_t_house_ills, .ref q_t_house_roomOf, .ref q_t_house_effects, .ref q_t_house_badFor, .ref q_t_house_likes, .ref q_t_house_sights]))] → va_S A s.heap H locs → W p l e (kR 2 81) s m args below meth c H locs 0 0 Q (F0 m pc ls [.int a0_]) := by
    intro a0_ a1_ a2_ hy; obtain ⟨rfl, rfl, rfl⟩ := sm3 hy
    exact RET
  have hown : s.vm.findClass RX7 = some m.cls := hown
  have hl : lv_has ls 2 [(0, .ref q_t), (1, .int v1)] := hl
  clear RET
  rw [fX7_leave] at hf
  refine lv_aload_n hx hb dX7_leave_0 rfl (lv_at hl 0 rfl) ?_
  refine va_get (D := D) (ci := 7) (v := .ref q_t_house) (C := RX7) (T := TX7) (N := 7) hx hb hts inX7 hown hK hP 0 rfl rfl 0 (by decide) (hts _ lfX7_12) (fun _ h9 => h9) rfl dX7_leave_1 ?_
  refine lv_iload_n hx hb dX7_leave_4 rfl (lv_at hl 1 rfl) ?_
  obtain ⟨r1, h2, hf⟩ := bd1E hf
  refine kO_virt hx hb hml hown hts hK hn hP (kX1_isThere l D G q_t_house q_t_house_ills q_t_house_roomOf q_t_house_effects q_t_house_badFor q_t_house_likes q_t_house_sights t_house_there t_house_sat t_house_hour v1 h2) cvX7_77 ⟨Nat.le_of_ble_eq_true rfl, Nat.le_of_ble_eq_true rfl⟩ [1] rfl 1 rfl rfl rfl hl.1 rfl (Nat.le_of_ble_eq_true rfl) ⟨Nat.zero_le _, Nat.zero_le _⟩ dX7_leave_5 ?_
  refine lv_if_ne (tgt := 13) hx hb dX7_leave_8 (by decide) (fun c3 => ?_) (fun c3 => ?_)
  · have hf := ifn c3 hf
    refine lv_aload_n hx hb dX7_leave_13 rfl (lv_at hl 0 rfl) ?_
    refine va_get (D := D) (ci := 7) (v := .ref q_t_house) (C := RX7) (T := TX7) (N := 7) hx hb hts inX7 hown hK hP 0 rfl rfl 0 (by decide) (hts _ lfX7_12) (fun _ h9 => h9) rfl dX7_leave_14 ?_
    refine lv_iload_n hx hb dX7_leave_17 rfl (lv_at hl 1 rfl) ?_
    obtain ⟨o4, o5, h6, hf⟩ := bd2E hf
    refine kW_virt0 hx hb hml hown hts hK hn hA hP hD hS (kX1_send l D G q_t_house q_t_house_ills q_t_house_roomOf q_t_house_effects q_t_house_badFor q_t_house_likes q_t_house_sights t_house_there t_house_sat t_house_hour v1 h6) cvX7_81 ⟨Nat.le_of_ble_eq_true rfl, Nat.le_of_ble_eq_true rfl⟩ [1] rfl rfl [false, true] rfl (w3 := [(q_t_house, .inr (1, [.int o4, .int o5, .int t_house_hour, .ref q_t_house_ills, .ref q_t_house_roomOf, .ref q_t_house_effects, .ref q_t_house_badFor, .ref q_t_house_likes, .ref q_t_house_sights]))]) [0] rfl rfl 1 rfl rfl rfl hl.1 rfl (Nat.le_of_ble_eq_true rfl) ⟨Nat.zero_le _, Nat.zero_le _⟩ dX7_leave_18 (fun H locs hP hD hS => ?_)
    have hP : va_P D vwCl [(q_t, .inr (7, [.ref q_t_house, .ref q_t_images, .ref q_t_pad, .ref q_t_trial, .ref q_t_placing, .ref q_t_seating, .ref q_t_chance])), (q_t_house, .inr (1, [.int o4, .int o5, .int t_house_hour, .ref q_t_house_ills, .ref q_t_house_roomOf, .ref q_t_house_effects, .ref q_t_house_badFor, .ref q_t_house_likes, .ref q_t_house_sights]))] H := hP
    have hD : va_D A [(q_t, .inr (7, [.ref q_t_house, .ref q_t_images, .ref q_t_pad, .ref q_t_trial, .ref q_t_placing, .ref q_t_seating, .ref q_t_chance])), (q_t_house, .inr (1, [.int o4, .int o5, .int t_house_hour, .ref q_t_house_ills, .ref q_t_house_roomOf, .ref q_t_house_effects, .ref q_t_house_badFor, .ref q_t_house_likes, .ref q_t_house_sights]))] := hD
    refine lv_aload_n hx hb dX7_leave_21 rfl (lv_at hl 0 rfl) ?_
    refine va_get (D := D) (ci := 7) (v := .ref q_t_house) (C := RX7) (T := TX7) (N := 7) hx hb hts inX7 hown hK hP 0 rfl rfl 0 (by decide) (hts _ lfX7_12) (fun _ h9 => h9) rfl dX7_leave_22 ?_
    refine va_get (D := D) (ci := 1) (v := .int o4) (C := RX1) (T := TX1) (N := 9) hx hb hts inX1 hown hK hP 1 rfl rfl 0 (by decide) (hts _ lfX7_67) (fun _ h9 => h9) rfl dX7_leave_25 ?_
    obtain ⟨r7, h8, hf⟩ := bd1E hf
    refine kO_stat hx hb hml hown hts hK hn hP (kJ6_bitCount_0f7a4 l D G o4 h8) csX7_71 ⟨Nat.le_of_ble_eq_true rfl, Nat.le_of_ble_eq_true rfl⟩ [] rfl rfl hl.1 rfl (Nat.le_of_ble_eq_true rfl) ⟨Nat.zero_le _, Nat.zero_le _⟩ dX7_leave_28 ?_
    exact RT _ _ _ hf _ _ _ H locs dX7_leave_31 (rkI _) hP hD hS
  · have hf := ifp c3 hf
    refine lv_iconst (v := (-1 : Int32)) hx hb dX7_leave_11 (by decide) ?_
    exact RT _ _ _ hf _ _ _ H locs dX7_leave_12 (rkI _) hP hD hS
set_option maxHeartbeats 4000000 in
set_option maxRecDepth 100000 in
theorem kX7_mostLeft (l : Launch) (D : va_G) (G : Nat → ClassId) (fu : Nat) (v0 : Int32) (v1 : Int32) {r : Int32} (hf : fX7_mostLeft fu v0 v1 = some r) : rO l D G yX7_mostLeft cX7_mostLeft 7 (some .int) 2 80 [.int v0, .int v1] [] (some (.int r)) := by
  refine rO_of (by decide) (Nat.le_of_ble_eq_true rfl) ?_
  intro p e s m args below meth c Q hx hb hml hown hts hK hn hP RET ls hl
  have RT : ∀ (a0_ : Int32), some a0_ = some r → ∀ (pc : Nat) (ls : Array Slot) (ins : Instr), decode cX7_mostLeft pc = .ok (ins, 1) → rk (some .int) (some (.int a0_)) ins → W p l e (kR 2 80) s m args below meth c s.heap [] 0 0 Q (F0 m pc ls [.int a0_]) := by
    intro a0_ hy; obtain rfl := sm1 hy
    exact RET
  have hown : s.vm.findClass RX7 = some m.cls := hown
  have hl : lv_has ls 7 [(0, .int v0), (1, .int v1)] := hl
  clear RET
  rw [fX7_mostLeft] at hf
  refine lv_iconst (v := (0 : Int32)) hx hb dX7_mostLeft_0 (by decide) ?_
  refine lv_istore_n (lv' := [(2, .int (0 : Int32)), (0, .int v0), (1, .int v1)]) hx hb dX7_mostLeft_1 rfl hl (by decide) rfl (fun ls hl => ?_)
  refine lv_iconst (v := (0 : Int32)) hx hb dX7_mostLeft_2 (by decide) ?_
  refine lv_istore_n (lv' := [(3, .int (0 : Int32)), (2, .int (0 : Int32)), (0, .int v0), (1, .int v1)]) hx hb dX7_mostLeft_3 rfl hl (by decide) rfl (fun ls hl => ?_)
  refine lv_iconst (v := (-1 : Int32)) hx hb dX7_mostLeft_4 (by decide) ?_
  refine lv_istore (lv' := [(4, .int (-1 : Int32)), (3, .int (0 : Int32)), (2, .int (0 : Int32)), (0, .int v0), (1, .int v1)]) hx hb dX7_mostLeft_5 hl (by decide) rfl (fun ls hl => ?_)
  refine lv_bipush (v := (-5 : Int32)) hx hb dX7_mostLeft_7 (by decide) ?_
  refine lv_istore (lv' := [(5, .int (-5 : Int32)), (4, .int (-1 : Int32)), (3, .int (0 : Int32)), (2, .int (0 : Int32)), (0, .int v0), (1, .int v1)]) hx hb dX7_mostLeft_9 hl (by decide) rfl (fun ls hl => ?_)
  obtain ⟨u41, h45, hf⟩ := bd1E hf
  have E42 : ∀ (z78 : Int32), some z78 = some u41 → ∀ ls : Array Slot, lv_has ls 7 [(2, .int z78)] → W p l e (kR 2 80) s m args below meth c s.heap [] 0 0 Q (F0 m 69 ls []) := by
    intro z78 hy; obtain rfl := sm1 hy
    intro ls hl
    refine lv_iload_n hx hb dX7_mostLeft_69 rfl (lv_at hl 0 rfl) ?_
    exact RT _ hf _ _ _ dX7_mostLeft_70 (rkI _)
  have L43 : ∀ (k : Nat) (w37 : Int32) (w38 : Int32) (w39 : Int32) (w40 : Int32), fX7_mostLeft_11 v1 v0 k w37 w38 w39 w40 = some u41 → ∀ ls : Array Slot, lv_has ls 7 [(0, .int v0), (1, .int v1), (2, .int w37), (3, .int w38), (4, .int w39), (5, .int w40)] → W p l e (kR 2 80) s m args below meth c s.heap [] 0 0 Q (F0 m 11 ls []) := by
    intro k; induction k with
    | zero => intro w37 w38 w39 w40 hf; exact nosome hf
    | succ k ih =>
      intro w37 w38 w39 w40 hf; rw [fX7_mostLeft_11] at hf
      intro ls hl
      refine lv_iload hx hb dX7_mostLeft_11 (lv_at hl 5 rfl) ?_
      refine lv_iconst (v := (5 : Int32)) hx hb dX7_mostLeft_13 (by decide) ?_
      refine lv_icmp_gt (tgt := 69) hx hb dX7_mostLeft_14 (by decide) (fun c48 => ?_) (fun c48 => ?_)
      · have hf := ifp c48 hf
        exact E42 _ hf ls (lv_sub hl [2] rfl)
      · have hf := ifn c48 hf
        refine lv_iload_n hx hb dX7_mostLeft_17 rfl (lv_at hl 1 rfl) ?_
        refine lv_iload hx hb dX7_mostLeft_18 (lv_at hl 5 rfl) ?_
        refine lv_iconst (v := (5 : Int32)) hx hb dX7_mostLeft_20 (by decide) ?_
        refine lv_iadd hx hb dX7_mostLeft_21 ?_
        refine lv_ishr hx hb dX7_mostLeft_22 ?_
        refine lv_iconst (v := (1 : Int32)) hx hb dX7_mostLeft_23 (by decide) ?_
        refine lv_iand hx hb dX7_mostLeft_24 ?_
        refine lv_iconst (v := (1 : Int32)) hx hb dX7_mostLeft_25 (by decide) ?_
        obtain ⟨j59, j60, j61, h77, hf⟩ := bd3E hf
        have E66 : ∀ (z62 : Int32) (z63 : Int32) (z64 : Int32), some (z62, z63, z64) = some (j59, j60, j61) → ∀ ls : Array Slot, lv_has ls 7 [(0, .int v0), (1, .int v1), (2, .int z62), (3, .int z63), (4, .int z64), (5, .int w40)] → W p l e (kR 2 80) s m args below meth c s.heap [] 0 0 Q (F0 m 63 ls []) := by
          intro z62 z63 z64 hy; obtain ⟨rfl, rfl, rfl⟩ := sm3 hy
          intro ls hl
          obtain ⟨y65, ey65⟩ : ∃ y : Int32, y = w40 + (1 : Int32) := ⟨_, rfl⟩
          have hf := nmeU ey65 hf
          refine lv_iinc (v := y65) (lv' := [(5, .int y65), (0, .int v0), (1, .int v1), (2, .int z62), (3, .int z63), (4, .int z64)]) hx hb dX7_mostLeft_63 hl (k := 5) rfl (by rw [ey65]; rfl) (by decide) rfl (fun ls hl => ?_)
          refine lv_goto (tgt := 11) hx hb dX7_mostLeft_66 (by decide) ?_
          exact ih _ _ _ _ hf ls (lv_sub hl [1, 2, 3, 4, 5, 0] rfl)
        have hf := h77
        refine lv_icmp_ne (tgt := 63) hx hb dX7_mostLeft_26 (by decide) (fun c67 => ?_) (fun c67 => ?_)
        · have hf := ifn c67 hf
          exact E66 _ _ _ hf ls (lv_sub hl [0, 1, 2, 3, 4, 5] rfl)
        · have hf := ifp c67 hf
          refine lv_iload_n hx hb dX7_mostLeft_29 rfl (lv_at hl 0 rfl) ?_
          refine lv_iload hx hb dX7_mostLeft_30 (lv_at hl 5 rfl) ?_
          refine lv_iadd hx hb dX7_mostLeft_32 ?_
          obtain ⟨r68, h69, hf⟩ := bd1E hf
          refine kO_stat hx hb hml hown hts hK hn hP (kX7_withinIll l D G (v0 + w40) h69) csX7_190 ⟨Nat.le_of_ble_eq_true rfl, Nat.le_of_ble_eq_true rfl⟩ [] rfl rfl hl.1 rfl (Nat.le_of_ble_eq_true rfl) ⟨Nat.zero_le _, Nat.zero_le _⟩ dX7_mostLeft_33 ?_
          refine lv_istore (lv' := [(6, .int r68), (0, .int v0), (1, .int v1), (2, .int w37), (3, .int w38), (4, .int w39), (5, .int w40)]) hx hb dX7_mostLeft_36 hl (by decide) rfl (fun ls hl => ?_)
          refine lv_iload hx hb dX7_mostLeft_38 (lv_at hl 0 rfl) ?_
          refine lv_iload hx hb dX7_mostLeft_40 (lv_at hl 5 rfl) ?_
          obtain ⟨j71, h76, hf⟩ := bd1E hf
          have E74 : ∀ (z72 : Int32), some z72 = some j71 → ∀ ls : Array Slot, lv_has ls 7 [(0, .int v0), (1, .int v1), (2, .int w37), (5, .int w40), (6, .int r68)] → W p l e (kR 2 80) s m args below meth c s.heap [] 0 0 Q (F0 m 52 ls [.int z72]) := by
            intro z72 hy; obtain rfl := sm1 hy
            intro ls hl
            refine lv_istore_n (lv' := [(3, .int z72), (0, .int v0), (1, .int v1), (2, .int w37), (5, .int w40), (6, .int r68)]) hx hb dX7_mostLeft_52 rfl hl (by decide) rfl (fun ls hl => ?_)
            refine lv_iload hx hb dX7_mostLeft_53 (lv_at hl 5 rfl) ?_
            refine lv_istore (lv' := [(4, .int r68), (3, .int z72), (0, .int v0), (1, .int v1), (2, .int w37), (5, .int w40), (6, .int r68)]) hx hb dX7_mostLeft_55 hl (by decide) rfl (fun ls hl => ?_)
            refine lv_iload_n hx hb dX7_mostLeft_57 rfl (lv_at hl 4 rfl) ?_
            refine lv_iload_n hx hb dX7_mostLeft_58 rfl (lv_at hl 1 rfl) ?_
            refine va_mmax hx hb (hml.trans hl.1.symm) hown (hts _ lmX7_193) (hts _ ks_max_int) (hts _ niJ9) (hts _ kc_max_int) (Nat.le_of_ble_eq_true rfl) (Nat.le_of_ble_eq_true rfl) (Nat.le_of_ble_eq_true rfl) (Nat.le_of_ble_eq_true rfl) dX7_mostLeft_59 ?_
            refine lv_topi (fun y73 ey73 => ?_)
            have hf := nmeU ey73 hf
            refine lv_istore_n (lv' := [(2, .int y73), (4, .int r68), (3, .int z72), (0, .int v0), (1, .int v1), (5, .int w40), (6, .int r68)]) hx hb dX7_mostLeft_62 rfl hl (by decide) rfl (fun ls hl => ?_)
            exact E66 _ _ _ hf ls (lv_sub hl [3, 4, 0, 2, 1, 5] rfl)
          have hf := h76
          refine lv_icmp_ne (tgt := 51) hx hb dX7_mostLeft_42 (by decide) (fun c75 => ?_) (fun c75 => ?_)
          · have hf := ifn c75 hf
            refine lv_iconst (v := (1 : Int32)) hx hb dX7_mostLeft_51 (by decide) ?_
            exact E74 _ hf ls (lv_sub hl [1, 2, 3, 6, 0] rfl)
          · have hf := ifp c75 hf
            refine lv_iload_n hx hb dX7_mostLeft_45 rfl (lv_at hl 4 rfl) ?_
            refine lv_iconst (v := (1 : Int32)) hx hb dX7_mostLeft_46 (by decide) ?_
            refine lv_iadd hx hb dX7_mostLeft_47 ?_
            refine lv_goto (tgt := 52) hx hb dX7_mostLeft_48 (by decide) ?_
            exact E74 _ hf ls (lv_sub hl [1, 2, 3, 6, 0] rfl)
  exact L43 fu (0 : Int32) (0 : Int32) (-1 : Int32) (-5 : Int32) h45 ls (lv_sub hl [4, 5, 3, 2, 1, 0] rfl)
set_option maxHeartbeats 4000000 in
set_option maxRecDepth 100000 in
theorem kX7_piece (l : Launch) (D : va_G) (G : Nat → ClassId) (q_t q_t_house q_t_images q_t_pad q_t_trial q_t_placing q_t_seating q_t_chance q_t_house_ills q_t_house_roomOf q_t_house_effects q_t_house_badFor q_t_house_likes q_t_house_sights : Nat) (t_house_there : Int32) (t_house_sat : Int32) (t_house_hour : Int32) (t_house_ills : Nat → Int32) (t_house_roomOf : Nat → Int32) (v1 : Int32) (v2 : Int32) (v3 : Int32) (v4 : Int32) {r : Int32} {o_t_house_there : Int32} {o_t_house_sat : Int32} {o_t_house_ills : Nat → Int32} {o_t_house_roomOf : Nat → Int32} (hf : fX7_piece t_house_there t_house_sat t_house_ills t_house_roomOf v1 v2 v3 v4 = some (r, o_t_house_there, o_t_house_sat, o_t_house_ills, o_t_house_roomOf)) : rW l D G yX7_piece cX7_piece 5 (some .int) 2 84 [.ref q_t, .int v1, .int v2, .int v3, .int v4] [(q_t, .inr (7, [.ref q_t_house, .ref q_t_images, .ref q_t_pad, .ref q_t_trial, .ref q_t_placing, .ref q_t_seating, .ref q_t_chance])), (q_t_house, .inr (1, [.int t_house_there, .int t_house_sat, .int t_house_hour, .ref q_t_house_ills, .ref q_t_house_roomOf, .ref q_t_house_effects, .ref q_t_house_badFor, .ref q_t_house_likes, .ref q_t_house_sights])), (q_t_house_ills, .inl (G 0, 18, .inl t_house_ills)), (q_t_house_roomOf, .inl (G 0, 6, .inl t_house_roomOf))] [(q_t, .inr (7, [.ref q_t_house, .ref q_t_images, .ref q_t_pad, .ref q_t_trial, .ref q_t_placing, .ref q_t_seating, .ref q_t_chance])), (q_t_house, .inr (1, [.int o_t_house_there, .int o_t_house_sat, .int t_house_hour, .ref q_t_house_ills, .ref q_t_house_roomOf, .ref q_t_house_effects, .ref q_t_house_badFor, .ref q_t_house_likes, .ref q_t_house_sights])), (q_t_house_ills, .inl (G 0, 18, .inl o_t_house_ills)), (q_t_house_roomOf, .inl (G 0, 6, .inl o_t_house_roomOf))] (some (.int r)) := by
  refine rW_of (by decide) (Nat.le_of_ble_eq_true rfl) ?_
  intro p e s m args below meth c Q A hx hb hml hown hts hK hn hA RET H locs hP hD hS ls hl
  have RT : ∀ (a0_ : Int32) (a1_ : Int32) (a2_ : Int32) (a3_ : Nat → Int32) (a4_ : Nat → Int32), some (a0_, a1_, a2_, a3_, a4_) = some (r, o_t_house_there, o_t_house_sat, o_t_house_ills, o_t_house_roomOf) → ∀ (pc : Nat) (ls : Array Slot) (ins : Instr) (H : Heap) (locs : List Loc), decode cX7_piece pc = .ok (ins, 1) → rk (some .int) (some (.int a0_)) ins → va_P D vwCl [(q_t, .inr (7, [.ref q_t_house, .ref q_t_images, .ref q_t_pad, .ref q_t_trial, .ref q_t_placing, .ref q_t_seating, .ref q_t_chance])), (q_t_house, .inr (1, [.int a1_, .int a2_, .int t_house_hour, .ref q_t_house_ills, .ref q_t_house_roomOf, .ref q_t_house_effects, .ref q_t_house_badFor, .ref q_t_house_likes, .ref q_t_house_sights])), (q_t_house_ills, .inl (G 0, 18, .inl a3_)), (q_t_house_roomOf, .inl (G 0, 6, .inl a4_))] H → va_D A [(q_t, .inr (7, [.ref q_t_house, .ref q_t_images, .ref q_t_pad, .ref q_t_trial, .ref q_t_placing, .ref q_t_seating, .ref q_t_chance])), (q_t_house, .inr (1, [.int a1_, .int a2_, .int t_house_hour, .ref q_t_house_ills, .ref q_t_house_roomOf, .ref q_t_house_effects, .ref q_t_house_badFor, .ref q_t_house_likes, .ref q_t_house_sights])), (q_t_house_ills, .inl (G 0, 18, .inl a3_)), (q_t_house_roomOf, .inl (G 0, 6, .inl a4_))] → va_S A s.heap H locs → W p l e (kR 2 84) s m args below meth c H locs 0 0 Q (F0 m pc ls [.int a0_]) := by
    intro a0_ a1_ a2_ a3_ a4_ hy; obtain ⟨rfl, rfl, rfl, rfl, rfl⟩ := sm5 hy
    exact RET
  have hown : s.vm.findClass RX7 = some m.cls := hown
  have hl : lv_has ls 5 [(0, .ref q_t), (1, .int v1), (2, .int v2), (3, .int v3), (4, .int v4)] := hl
  clear RET
  rw [fX7_piece] at hf
  refine lv_iload_n hx hb dX7_piece_0 rfl (lv_at hl 1 rfl) ?_
  refine lv_bipush (v := (6 : Int32)) hx hb dX7_piece_1 (by decide) ?_
  obtain ⟨r1, h2, hf⟩ := bd1E hf
  refine kO_stat hx hb hml hown hts hK hn hP (kX7_isAmong l D G v1 (6 : Int32) h2) csX7_55 ⟨Nat.le_of_ble_eq_true rfl, Nat.le_of_ble_eq_true rfl⟩ [] rfl rfl hl.1 rfl (Nat.le_of_ble_eq_true rfl) ⟨Nat.zero_le _, Nat.zero_le _⟩ dX7_piece_3 ?_
  refine lv_if_ne (tgt := 11) hx hb dX7_piece_6 (by decide) (fun c3 => ?_) (fun c3 => ?_)
  · have hf := ifn c3 hf
    refine lv_iload_n hx hb dX7_piece_11 rfl (lv_at hl 2 rfl) ?_
    refine lv_iconst (v := (0 : Int32)) hx hb dX7_piece_12 (by decide) ?_
    refine lv_bipush (v := (20 : Int32)) hx hb dX7_piece_13 (by decide) ?_
    obtain ⟨r4, h5, hf⟩ := bd1E hf
    refine kO_stat hx hb hml hown hts hK hn hP (kX7_isBetween l D G v2 (0 : Int32) (20 : Int32) h5) csX7_59 ⟨Nat.le_of_ble_eq_true rfl, Nat.le_of_ble_eq_true rfl⟩ [] rfl rfl hl.1 rfl (Nat.le_of_ble_eq_true rfl) ⟨Nat.zero_le _, Nat.zero_le _⟩ dX7_piece_15 ?_
    refine lv_if_eq (tgt := 42) hx hb dX7_piece_18 (by decide) (fun c6 => ?_) (fun c6 => ?_)
    · have hf := ifp c6 hf
      refine lv_bipush (v := (-2 : Int32)) hx hb dX7_piece_42 (by decide) ?_
      exact RT _ _ _ _ _ hf _ _ _ H locs dX7_piece_44 (rkI _) hP hD hS
    · have hf := ifn c6 hf
      refine lv_iload_n hx hb dX7_piece_21 rfl (lv_at hl 3 rfl) ?_
      refine lv_iconst (v := (0 : Int32)) hx hb dX7_piece_22 (by decide) ?_
      refine lv_bipush (v := (20 : Int32)) hx hb dX7_piece_23 (by decide) ?_
      obtain ⟨r7, h8, hf⟩ := bd1E hf
      refine kO_stat hx hb hml hown hts hK hn hP (kX7_isBetween l D G v3 (0 : Int32) (20 : Int32) h8) csX7_59 ⟨Nat.le_of_ble_eq_true rfl, Nat.le_of_ble_eq_true rfl⟩ [] rfl rfl hl.1 rfl (Nat.le_of_ble_eq_true rfl) ⟨Nat.zero_le _, Nat.zero_le _⟩ dX7_piece_25 ?_
      refine lv_if_eq (tgt := 42) hx hb dX7_piece_28 (by decide) (fun c9 => ?_) (fun c9 => ?_)
      · have hf := ifp c9 hf
        refine lv_bipush (v := (-2 : Int32)) hx hb dX7_piece_42 (by decide) ?_
        exact RT _ _ _ _ _ hf _ _ _ H locs dX7_piece_44 (rkI _) hP hD hS
      · have hf := ifn c9 hf
        refine lv_iload hx hb dX7_piece_31 (lv_at hl 4 rfl) ?_
        refine lv_iconst (v := (0 : Int32)) hx hb dX7_piece_33 (by decide) ?_
        refine lv_bipush (v := (20 : Int32)) hx hb dX7_piece_34 (by decide) ?_
        obtain ⟨r10, h11, hf⟩ := bd1E hf
        refine kO_stat hx hb hml hown hts hK hn hP (kX7_isBetween l D G v4 (0 : Int32) (20 : Int32) h11) csX7_59 ⟨Nat.le_of_ble_eq_true rfl, Nat.le_of_ble_eq_true rfl⟩ [] rfl rfl hl.1 rfl (Nat.le_of_ble_eq_true rfl) ⟨Nat.zero_le _, Nat.zero_le _⟩ dX7_piece_36 ?_
        refine lv_if_ne (tgt := 45) hx hb dX7_piece_39 (by decide) (fun c12 => ?_) (fun c12 => ?_)
        · have hf := ifn c12 hf
          refine lv_aload_n hx hb dX7_piece_45 rfl (lv_at hl 0 rfl) ?_
          refine va_get (D := D) (ci := 7) (v := .ref q_t_house) (C := RX7) (T := TX7) (N := 7) hx hb hts inX7 hown hK hP 0 rfl rfl 0 (by decide) (hts _ lfX7_12) (fun _ h9 => h9) rfl dX7_piece_46 ?_
          refine lv_iload_n hx hb dX7_piece_49 rfl (lv_at hl 1 rfl) ?_
          refine lv_iload_n hx hb dX7_piece_50 rfl (lv_at hl 2 rfl) ?_
          refine lv_iload_n hx hb dX7_piece_51 rfl (lv_at hl 3 rfl) ?_
          refine lv_iload hx hb dX7_piece_52 (lv_at hl 4 rfl) ?_
          obtain ⟨o13, o14, o15, o16, h17, hf⟩ := bd4E hf
          refine kW_virt0 hx hb hml hown hts hK hn hA hP hD hS (kX1_house5 l D G q_t_house q_t_house_ills q_t_house_roomOf q_t_house_effects q_t_house_badFor q_t_house_likes q_t_house_sights t_house_there t_house_sat t_house_hour t_house_ills t_house_roomOf v1 v2 v3 v4 h17) cvX7_63 ⟨Nat.le_of_ble_eq_true rfl, Nat.le_of_ble_eq_true rfl⟩ [1, 2, 3] rfl rfl [false, true, true, true] rfl (w3 := [(q_t_house, .inr (1, [.int o13, .int o14, .int t_house_hour, .ref q_t_house_ills, .ref q_t_house_roomOf, .ref q_t_house_effects, .ref q_t_house_badFor, .ref q_t_house_likes, .ref q_t_house_sights])), (q_t_house_ills, .inl (G 0, 18, .inl o15)), (q_t_house_roomOf, .inl (G 0, 6, .inl o16))]) [0, 1, 2] rfl rfl 1 rfl rfl rfl hl.1 rfl (Nat.le_of_ble_eq_true rfl) ⟨Nat.zero_le _, Nat.zero_le _⟩ dX7_piece_54 (fun H locs hP hD hS => ?_)
          have hP : va_P D vwCl [(q_t, .inr (7, [.ref q_t_house, .ref q_t_images, .ref q_t_pad, .ref q_t_trial, .ref q_t_placing, .ref q_t_seating, .ref q_t_chance])), (q_t_house, .inr (1, [.int o13, .int o14, .int t_house_hour, .ref q_t_house_ills, .ref q_t_house_roomOf, .ref q_t_house_effects, .ref q_t_house_badFor, .ref q_t_house_likes, .ref q_t_house_sights])), (q_t_house_ills, .inl (G 0, 18, .inl o15)), (q_t_house_roomOf, .inl (G 0, 6, .inl o16))] H := hP
          have hD : va_D A [(q_t, .inr (7, [.ref q_t_house, .ref q_t_images, .ref q_t_pad, .ref q_t_trial, .ref q_t_placing, .ref q_t_seating, .ref q_t_chance])), (q_t_house, .inr (1, [.int o13, .int o14, .int t_house_hour, .ref q_t_house_ills, .ref q_t_house_roomOf, .ref q_t_house_effects, .ref q_t_house_badFor, .ref q_t_house_likes, .ref q_t_house_sights])), (q_t_house_ills, .inl (G 0, 18, .inl o15)), (q_t_house_roomOf, .inl (G 0, 6, .inl o16))] := hD
          refine lv_aload_n hx hb dX7_piece_57 rfl (lv_at hl 0 rfl) ?_
          refine va_get (D := D) (ci := 7) (v := .ref q_t_house) (C := RX7) (T := TX7) (N := 7) hx hb hts inX7 hown hK hP 0 rfl rfl 0 (by decide) (hts _ lfX7_12) (fun _ h9 => h9) rfl dX7_piece_58 ?_
          refine va_get (D := D) (ci := 1) (v := .int o13) (C := RX1) (T := TX1) (N := 9) hx hb hts inX1 hown hK hP 1 rfl rfl 0 (by decide) (hts _ lfX7_67) (fun _ h9 => h9) rfl dX7_piece_61 ?_
          obtain ⟨r18, h19, hf⟩ := bd1E hf
          refine kO_stat hx hb hml hown hts hK hn hP (kJ6_bitCount_0f7a4 l D G o13 h19) csX7_71 ⟨Nat.le_of_ble_eq_true rfl, Nat.le_of_ble_eq_true rfl⟩ [] rfl rfl hl.1 rfl (Nat.le_of_ble_eq_true rfl) ⟨Nat.zero_le _, Nat.zero_le _⟩ dX7_piece_64 ?_
          exact RT _ _ _ _ _ hf _ _ _ H locs dX7_piece_67 (rkI _) hP hD hS
        · have hf := ifp c12 hf
          refine lv_bipush (v := (-2 : Int32)) hx hb dX7_piece_42 (by decide) ?_
          exact RT _ _ _ _ _ hf _ _ _ H locs dX7_piece_44 (rkI _) hP hD hS
  · have hf := ifp c3 hf
    refine lv_iconst (v := (-1 : Int32)) hx hb dX7_piece_9 (by decide) ?_
    exact RT _ _ _ _ _ hf _ _ _ H locs dX7_piece_10 (rkI _) hP hD hS
set_option maxHeartbeats 4000000 in
set_option maxRecDepth 100000 in
theorem kX7_room (l : Launch) (D : va_G) (G : Nat → ClassId) (q_t q_t_house q_t_images q_t_pad q_t_trial q_t_placing q_t_seating q_t_chance q_t_house_ills q_t_house_roomOf q_t_house_effects q_t_house_badFor q_t_house_likes q_t_house_sights : Nat) (t_house_there : Int32) (t_house_sat : Int32) (t_house_hour : Int32) (t_house_effects : Nat → Int32) (v1 : Int32) (v2 : Int32) (v3 : Int32) {r : Int32} {o_t_house_effects : Nat → Int32} (hf : fX7_room t_house_effects v1 v2 v3 = some (r, o_t_house_effects)) : rW l D G yX7_room cX7_room 6 (some .int) 2 82 [.ref q_t, .int v1, .int v2, .int v3] [(q_t, .inr (7, [.ref q_t_house, .ref q_t_images, .ref q_t_pad, .ref q_t_trial, .ref q_t_placing, .ref q_t_seating, .ref q_t_chance])), (q_t_house, .inr (1, [.int t_house_there, .int t_house_sat, .int t_house_hour, .ref q_t_house_ills, .ref q_t_house_roomOf, .ref q_t_house_effects, .ref q_t_house_badFor, .ref q_t_house_likes, .ref q_t_house_sights])), (q_t_house_effects, .inl (G 0, 12, .inl t_house_effects))] [(q_t, .inr (7, [.ref q_t_house, .ref q_t_images, .ref q_t_pad, .ref q_t_trial, .ref q_t_placing, .ref q_t_seating, .ref q_t_chance])), (q_t_house, .inr (1, [.int t_house_there, .int t_house_sat, .int t_house_hour, .ref q_t_house_ills, .ref q_t_house_roomOf, .ref q_t_house_effects, .ref q_t_house_badFor, .ref q_t_house_likes, .ref q_t_house_sights])), (q_t_house_effects, .inl (G 0, 12, .inl o_t_house_effects))] (some (.int r)) := by
  refine rW_of (by decide) (Nat.le_of_ble_eq_true rfl) ?_
  intro p e s m args below meth c Q A hx hb hml hown hts hK hn hA RET H locs hP hD hS ls hl
  have RT : ∀ (a0_ : Int32) (a1_ : Nat → Int32), some (a0_, a1_) = some (r, o_t_house_effects) → ∀ (pc : Nat) (ls : Array Slot) (ins : Instr) (H : Heap) (locs : List Loc), decode cX7_room pc = .ok (ins, 1) → rk (some .int) (some (.int a0_)) ins → va_P D vwCl [(q_t, .inr (7, [.ref q_t_house, .ref q_t_images, .ref q_t_pad, .ref q_t_trial, .ref q_t_placing, .ref q_t_seating, .ref q_t_chance])), (q_t_house, .inr (1, [.int t_house_there, .int t_house_sat, .int t_house_hour, .ref q_t_house_ills, .ref q_t_house_roomOf, .ref q_t_house_effects, .ref q_t_house_badFor, .ref q_t_house_likes, .ref q_t_house_sights])), (q_t_house_effects, .inl (G 0, 12, .inl a1_))] H → va_D A [(q_t, .inr (7, [.ref q_t_house, .ref q_t_images, .ref q_t_pad, .ref q_t_trial, .ref q_t_placing, .ref q_t_seating, .ref q_t_chance])), (q_t_house, .inr (1, [.int t_house_there, .int t_house_sat, .int t_house_hour, .ref q_t_house_ills, .ref q_t_house_roomOf, .ref q_t_house_effects, .ref q_t_house_badFor, .ref q_t_house_likes, .ref q_t_house_sights])), (q_t_house_effects, .inl (G 0, 12, .inl a1_))] → va_S A s.heap H locs → W p l e (kR 2 82) s m args below meth c H locs 0 0 Q (F0 m pc ls [.int a0_]) := by
    intro a0_ a1_ hy; obtain ⟨rfl, rfl⟩ := sm2 hy
    exact RET
  have hown : s.vm.findClass RX7 = some m.cls := hown
  have hl : lv_has ls 6 [(0, .ref q_t), (1, .int v1), (2, .int v2), (3, .int v3)] := hl
  clear RET
  rw [fX7_room] at hf
  refine lv_iload_n hx hb dX7_room_0 rfl (lv_at hl 1 rfl) ?_
  refine lv_iconst (v := (4 : Int32)) hx hb dX7_room_1 (by decide) ?_
  obtain ⟨r1, h2, hf⟩ := bd1E hf
  refine kO_stat hx hb hml hown hts hK hn hP (kX7_isAmong l D G v1 (4 : Int32) h2) csX7_55 ⟨Nat.le_of_ble_eq_true rfl, Nat.le_of_ble_eq_true rfl⟩ [] rfl rfl hl.1 rfl (Nat.le_of_ble_eq_true rfl) ⟨Nat.zero_le _, Nat.zero_le _⟩ dX7_room_2 ?_
  refine lv_if_ne (tgt := 10) hx hb dX7_room_5 (by decide) (fun c3 => ?_) (fun c3 => ?_)
  · have hf := ifn c3 hf
    refine lv_iload_n hx hb dX7_room_10 rfl (lv_at hl 2 rfl) ?_
    refine lv_iconst (v := (3 : Int32)) hx hb dX7_room_11 (by decide) ?_
    obtain ⟨r4, h5, hf⟩ := bd1E hf
    refine kO_stat hx hb hml hown hts hK hn hP (kX7_isAmong l D G v2 (3 : Int32) h5) csX7_55 ⟨Nat.le_of_ble_eq_true rfl, Nat.le_of_ble_eq_true rfl⟩ [] rfl rfl hl.1 rfl (Nat.le_of_ble_eq_true rfl) ⟨Nat.zero_le _, Nat.zero_le _⟩ dX7_room_12 ?_
    refine lv_if_eq (tgt := 28) hx hb dX7_room_15 (by decide) (fun c6 => ?_) (fun c6 => ?_)
    · have hf := ifp c6 hf
      refine lv_bipush (v := (-2 : Int32)) hx hb dX7_room_28 (by decide) ?_
      exact RT _ _ hf _ _ _ H locs dX7_room_30 (rkI _) hP hD hS
    · have hf := ifn c6 hf
      refine lv_iload_n hx hb dX7_room_18 rfl (lv_at hl 3 rfl) ?_
      refine lv_bipush (v := (-5 : Int32)) hx hb dX7_room_19 (by decide) ?_
      refine lv_iconst (v := (5 : Int32)) hx hb dX7_room_21 (by decide) ?_
      obtain ⟨r7, h8, hf⟩ := bd1E hf
      refine kO_stat hx hb hml hown hts hK hn hP (kX7_isBetween l D G v3 (-5 : Int32) (5 : Int32) h8) csX7_59 ⟨Nat.le_of_ble_eq_true rfl, Nat.le_of_ble_eq_true rfl⟩ [] rfl rfl hl.1 rfl (Nat.le_of_ble_eq_true rfl) ⟨Nat.zero_le _, Nat.zero_le _⟩ dX7_room_22 ?_
      refine lv_if_ne (tgt := 31) hx hb dX7_room_25 (by decide) (fun c9 => ?_) (fun c9 => ?_)
      · have hf := ifn c9 hf
        refine lv_iload_n hx hb dX7_room_31 rfl (lv_at hl 1 rfl) ?_
        refine lv_iconst (v := (3 : Int32)) hx hb dX7_room_32 (by decide) ?_
        refine lv_imul hx hb dX7_room_33 ?_
        refine lv_iload_n hx hb dX7_room_34 rfl (lv_at hl 2 rfl) ?_
        refine lv_iadd hx hb dX7_room_35 ?_
        refine lv_topi (fun y10 ey10 => ?_)
        have hf := nmeU ey10 hf
        refine lv_istore (lv' := [(4, .int y10), (0, .ref q_t), (1, .int v1), (2, .int v2), (3, .int v3)]) hx hb dX7_room_36 hl (by decide) rfl (fun ls hl => ?_)
        refine lv_aload_n hx hb dX7_room_38 rfl (lv_at hl 1 rfl) ?_
        refine va_get (D := D) (ci := 7) (v := .ref q_t_house) (C := RX7) (T := TX7) (N := 7) hx hb hts inX7 hown hK hP 0 rfl rfl 0 (by decide) (hts _ lfX7_12) (fun _ h9 => h9) rfl dX7_room_39 ?_
        refine va_get (D := D) (ci := 1) (v := .ref q_t_house_effects) (C := RX1) (T := TX1) (N := 9) hx hb hts inX1 hown hK hP 1 rfl rfl 5 (by decide) (hts _ lfX7_85) (fun _ h9 => h9) rfl dX7_room_42 ?_
        refine lv_iload hx hb dX7_room_45 (lv_at hl 0 rfl) ?_
        obtain ⟨x11, ex11, ix11, hf⟩ := ldIE hf
        refine k_iald hx hb hK hP 2 0 rfl rfl ix11 ex11 dX7_room_47 ?_
        refine lv_istore (lv' := [(5, .int x11), (4, .int y10), (0, .ref q_t), (1, .int v1), (2, .int v2), (3, .int v3)]) hx hb dX7_room_48 hl (by decide) rfl (fun ls hl => ?_)
        refine lv_aload_n hx hb dX7_room_50 rfl (lv_at hl 2 rfl) ?_
        refine va_get (D := D) (ci := 7) (v := .ref q_t_house) (C := RX7) (T := TX7) (N := 7) hx hb hts inX7 hown hK hP 0 rfl rfl 0 (by decide) (hts _ lfX7_12) (fun _ h9 => h9) rfl dX7_room_51 ?_
        refine va_get (D := D) (ci := 1) (v := .ref q_t_house_effects) (C := RX1) (T := TX1) (N := 9) hx hb hts inX1 hown hK hP 1 rfl rfl 5 (by decide) (hts _ lfX7_85) (fun _ h9 => h9) rfl dX7_room_54 ?_
        refine lv_iload hx hb dX7_room_57 (lv_at hl 1 rfl) ?_
        refine lv_iload_n hx hb dX7_room_59 rfl (lv_at hl 5 rfl) ?_
        obtain ⟨g12, eg12, ig12, hf⟩ := stIE hf
        refine k_iast hx hb hK hP hD hS 2 0 rfl rfl ig12 eg12 dX7_room_60 (fun H locs hP hD hS => ?_)
        have hP : va_P D vwCl [(q_t, .inr (7, [.ref q_t_house, .ref q_t_images, .ref q_t_pad, .ref q_t_trial, .ref q_t_placing, .ref q_t_seating, .ref q_t_chance])), (q_t_house, .inr (1, [.int t_house_there, .int t_house_sat, .int t_house_hour, .ref q_t_house_ills, .ref q_t_house_roomOf, .ref q_t_house_effects, .ref q_t_house_badFor, .ref q_t_house_likes, .ref q_t_house_sights])), (q_t_house_effects, .inl (G 0, 12, .inl g12))] H := hP
        have hD : va_D A [(q_t, .inr (7, [.ref q_t_house, .ref q_t_images, .ref q_t_pad, .ref q_t_trial, .ref q_t_placing, .ref q_t_seating, .ref q_t_chance])), (q_t_house, .inr (1, [.int t_house_there, .int t_house_sat, .int t_house_hour, .ref q_t_house_ills, .ref q_t_house_roomOf, .ref q_t_house_effects, .ref q_t_house_badFor, .ref q_t_house_likes, .ref q_t_house_sights])), (q_t_house_effects, .inl (G 0, 12, .inl g12))] := hD
        refine lv_iload hx hb dX7_room_61 (lv_at hl 0 rfl) ?_
        refine lv_bipush (v := (10 : Int32)) hx hb dX7_room_63 (by decide) ?_
        refine lv_iadd hx hb dX7_room_65 ?_
        exact RT _ _ hf _ _ _ H locs dX7_room_66 (rkI _) hP hD hS
      · have hf := ifp c9 hf
        refine lv_bipush (v := (-2 : Int32)) hx hb dX7_room_28 (by decide) ?_
        exact RT _ _ hf _ _ _ H locs dX7_room_30 (rkI _) hP hD hS
  · have hf := ifp c3 hf
    refine lv_iconst (v := (-1 : Int32)) hx hb dX7_room_8 (by decide) ?_
    exact RT _ _ hf _ _ _ H locs dX7_room_9 (rkI _) hP hD hS
set_option maxHeartbeats 4000000 in
set_option maxRecDepth 100000 in
theorem kX7_rooms (l : Launch) (D : va_G) (G : Nat → ClassId) (fu : Nat) (q_t q_t_house q_t_images q_t_pad q_t_trial q_t_placing q_t_seating q_t_chance q_t_house_ills q_t_house_roomOf q_t_house_effects q_t_house_badFor q_t_house_likes q_t_house_sights q_t_placing_needs q_t_placing_apartFrom q_t_placing_togetherWith : Nat) (t_house_there : Int32) (t_house_sat : Int32) (t_house_hour : Int32) (t_placing_hours : Int32) (t_placing_number : Int32) (t_placing_apartFrom : Nat → Int32) (t_placing_togetherWith : Nat → Int32) (v1 : Int32) (v2 : Int32) {r : Int32} {o_t_placing_apartFrom : Nat → Int32} {o_t_placing_togetherWith : Nat → Int32} (hf : fX7_rooms fu t_house_there t_placing_apartFrom t_placing_togetherWith v1 v2 = some (r, o_t_placing_apartFrom, o_t_placing_togetherWith)) : rW l D G yX7_rooms cX7_rooms 4 (some .int) 12 614 [.ref q_t, .int v1, .int v2] [(q_t, .inr (7, [.ref q_t_house, .ref q_t_images, .ref q_t_pad, .ref q_t_trial, .ref q_t_placing, .ref q_t_seating, .ref q_t_chance])), (q_t_house, .inr (1, [.int t_house_there, .int t_house_sat, .int t_house_hour, .ref q_t_house_ills, .ref q_t_house_roomOf, .ref q_t_house_effects, .ref q_t_house_badFor, .ref q_t_house_likes, .ref q_t_house_sights])), (q_t_placing, .inr (3, [.int t_placing_hours, .int t_placing_number, .ref q_t_placing_needs, .ref q_t_placing_apartFrom, .ref q_t_placing_togetherWith])), (q_t_placing_apartFrom, .inl (G 0, 6, .inl t_placing_apartFrom)), (q_t_placing_togetherWith, .inl (G 0, 6, .inl t_placing_togetherWith))] [(q_t, .inr (7, [.ref q_t_house, .ref q_t_images, .ref q_t_pad, .ref q_t_trial, .ref q_t_placing, .ref q_t_seating, .ref q_t_chance])), (q_t_house, .inr (1, [.int t_house_there, .int t_house_sat, .int t_house_hour, .ref q_t_house_ills, .ref q_t_house_roomOf, .ref q_t_house_effects, .ref q_t_house_badFor, .ref q_t_house_likes, .ref q_t_house_sights])), (q_t_placing, .inr (3, [.int t_placing_hours, .int t_placing_number, .ref q_t_placing_needs, .ref q_t_placing_apartFrom, .ref q_t_placing_togetherWith])), (q_t_placing_apartFrom, .inl (G 0, 6, .inl o_t_placing_apartFrom)), (q_t_placing_togetherWith, .inl (G 0, 6, .inl o_t_placing_togetherWith))] (some (.int r)) := by
  refine rW_of (by decide) (Nat.le_of_ble_eq_true rfl) ?_
  intro p e s m args below meth c Q A hx hb hml hown hts hK hn hA RET H locs hP hD hS ls hl
  have RT : ∀ (a0_ : Int32) (a1_ : Nat → Int32) (a2_ : Nat → Int32), some (a0_, a1_, a2_) = some (r, o_t_placing_apartFrom, o_t_placing_togetherWith) → ∀ (pc : Nat) (ls : Array Slot) (ins : Instr) (H : Heap) (locs : List Loc), decode cX7_rooms pc = .ok (ins, 1) → rk (some .int) (some (.int a0_)) ins → va_P D vwCl [(q_t, .inr (7, [.ref q_t_house, .ref q_t_images, .ref q_t_pad, .ref q_t_trial, .ref q_t_placing, .ref q_t_seating, .ref q_t_chance])), (q_t_house, .inr (1, [.int t_house_there, .int t_house_sat, .int t_house_hour, .ref q_t_house_ills, .ref q_t_house_roomOf, .ref q_t_house_effects, .ref q_t_house_badFor, .ref q_t_house_likes, .ref q_t_house_sights])), (q_t_placing, .inr (3, [.int t_placing_hours, .int t_placing_number, .ref q_t_placing_needs, .ref q_t_placing_apartFrom, .ref q_t_placing_togetherWith])), (q_t_placing_apartFrom, .inl (G 0, 6, .inl a1_)), (q_t_placing_togetherWith, .inl (G 0, 6, .inl a2_))] H → va_D A [(q_t, .inr (7, [.ref q_t_house, .ref q_t_images, .ref q_t_pad, .ref q_t_trial, .ref q_t_placing, .ref q_t_seating, .ref q_t_chance])), (q_t_house, .inr (1, [.int t_house_there, .int t_house_sat, .int t_house_hour, .ref q_t_house_ills, .ref q_t_house_roomOf, .ref q_t_house_effects, .ref q_t_house_badFor, .ref q_t_house_likes, .ref q_t_house_sights])), (q_t_placing, .inr (3, [.int t_placing_hours, .int t_placing_number, .ref q_t_placing_needs, .ref q_t_placing_apartFrom, .ref q_t_placing_togetherWith])), (q_t_placing_apartFrom, .inl (G 0, 6, .inl a1_)), (q_t_placing_togetherWith, .inl (G 0, 6, .inl a2_))] → va_S A s.heap H locs → W p l e (kR 12 614) s m args below meth c H locs 0 0 Q (F0 m pc ls [.int a0_]) := by
    intro a0_ a1_ a2_ hy; obtain ⟨rfl, rfl, rfl⟩ := sm3 hy
    exact RET
  have hown : s.vm.findClass RX7 = some m.cls := hown
  have hl : lv_has ls 4 [(0, .ref q_t), (1, .int v1), (2, .int v2)] := hl
  clear RET
  rw [fX7_rooms] at hf
  refine lv_iload_n hx hb dX7_rooms_0 rfl (lv_at hl 1 rfl) ?_
  refine lv_ldc (v := (32768 : Int32)) hx hb hown (hts _ lcX7_155) dX7_rooms_1 ?_
  obtain ⟨r1, h2, hf⟩ := bd1E hf
  refine kO_stat hx hb hml hown hts hK hn hP (kX7_isAmong l D G v1 (32768 : Int32) h2) csX7_55 ⟨Nat.le_of_ble_eq_true rfl, Nat.le_of_ble_eq_true rfl⟩ [] rfl rfl hl.1 rfl (Nat.le_of_ble_eq_true rfl) ⟨Nat.zero_le _, Nat.zero_le _⟩ dX7_rooms_3 ?_
  refine lv_if_eq (tgt := 18) hx hb dX7_rooms_6 (by decide) (fun c3 => ?_) (fun c3 => ?_)
  · have hf := ifp c3 hf
    refine lv_bipush (v := (-2 : Int32)) hx hb dX7_rooms_18 (by decide) ?_
    exact RT _ _ _ hf _ _ _ H locs dX7_rooms_20 (rkI _) hP hD hS
  · have hf := ifn c3 hf
    refine lv_iload_n hx hb dX7_rooms_9 rfl (lv_at hl 2 rfl) ?_
    refine lv_ldc (v := (32768 : Int32)) hx hb hown (hts _ lcX7_155) dX7_rooms_10 ?_
    obtain ⟨r4, h5, hf⟩ := bd1E hf
    refine kO_stat hx hb hml hown hts hK hn hP (kX7_isAmong l D G v2 (32768 : Int32) h5) csX7_55 ⟨Nat.le_of_ble_eq_true rfl, Nat.le_of_ble_eq_true rfl⟩ [] rfl rfl hl.1 rfl (Nat.le_of_ble_eq_true rfl) ⟨Nat.zero_le _, Nat.zero_le _⟩ dX7_rooms_12 ?_
    refine lv_if_ne (tgt := 21) hx hb dX7_rooms_15 (by decide) (fun c6 => ?_) (fun c6 => ?_)
    · have hf := ifn c6 hf
      refine lv_iconst (v := (1 : Int32)) hx hb dX7_rooms_21 (by decide) ?_
      refine lv_istore_n (lv' := [(3, .int (1 : Int32)), (0, .ref q_t), (1, .int v1), (2, .int v2)]) hx hb dX7_rooms_22 rfl hl (by decide) rfl (fun ls hl => ?_)
      obtain ⟨z31, h32, hr33, hc34⟩ := br2E hf
      have E29 : ∀ (z42 : Nat → Int32) (z43 : Nat → Int32), some (Sum.inr (z42, z43)) = some z31 → ∀ (H : Heap) (locs : List Loc), va_P D vwCl [(q_t, .inr (7, [.ref q_t_house, .ref q_t_images, .ref q_t_pad, .ref q_t_trial, .ref q_t_placing, .ref q_t_seating, .ref q_t_chance])), (q_t_house, .inr (1, [.int t_house_there, .int t_house_sat, .int t_house_hour, .ref q_t_house_ills, .ref q_t_house_roomOf, .ref q_t_house_effects, .ref q_t_house_badFor, .ref q_t_house_likes, .ref q_t_house_sights])), (q_t_placing, .inr (3, [.int t_placing_hours, .int t_placing_number, .ref q_t_placing_needs, .ref q_t_placing_apartFrom, .ref q_t_placing_togetherWith])), (q_t_placing_apartFrom, .inl (G 0, 6, .inl z42)), (q_t_placing_togetherWith, .inl (G 0, 6, .inl z43))] H → va_D A [(q_t, .inr (7, [.ref q_t_house, .ref q_t_images, .ref q_t_pad, .ref q_t_trial, .ref q_t_placing, .ref q_t_seating, .ref q_t_chance])), (q_t_house, .inr (1, [.int t_house_there, .int t_house_sat, .int t_house_hour, .ref q_t_house_ills, .ref q_t_house_roomOf, .ref q_t_house_effects, .ref q_t_house_badFor, .ref q_t_house_likes, .ref q_t_house_sights])), (q_t_placing, .inr (3, [.int t_placing_hours, .int t_placing_number, .ref q_t_placing_needs, .ref q_t_placing_apartFrom, .ref q_t_placing_togetherWith])), (q_t_placing_apartFrom, .inl (G 0, 6, .inl z42)), (q_t_placing_togetherWith, .inl (G 0, 6, .inl z43))] → va_S A s.heap H locs → ∀ ls : Array Slot, lv_has ls 4 [] → W p l e (kR 12 614) s m args below meth c H locs 0 0 Q (F0 m 56 ls []) := by
        intro z42 z43 hy; have hf := hc34 z42 z43 hy
        intro H locs hP hD hS ls hl
        refine lv_bipush (v := (-6 : Int32)) hx hb dX7_rooms_56 (by decide) ?_
        exact RT _ _ _ hf _ _ _ H locs dX7_rooms_58 (rkI _) hP hD hS
      have L30 : ∀ (k : Nat) (w24 : Int32) (w25 : Nat → Int32) (w26 : Nat → Int32), fX7_rooms_23 fu t_house_there v1 v2 k w24 w25 w26 = some z31 → ∀ (H : Heap) (locs : List Loc), va_P D vwCl [(q_t, .inr (7, [.ref q_t_house, .ref q_t_images, .ref q_t_pad, .ref q_t_trial, .ref q_t_placing, .ref q_t_seating, .ref q_t_chance])), (q_t_house, .inr (1, [.int t_house_there, .int t_house_sat, .int t_house_hour, .ref q_t_house_ills, .ref q_t_house_roomOf, .ref q_t_house_effects, .ref q_t_house_badFor, .ref q_t_house_likes, .ref q_t_house_sights])), (q_t_placing, .inr (3, [.int t_placing_hours, .int t_placing_number, .ref q_t_placing_needs, .ref q_t_placing_apartFrom, .ref q_t_placing_togetherWith])), (q_t_placing_apartFrom, .inl (G 0, 6, .inl w25)), (q_t_placing_togetherWith, .inl (G 0, 6, .inl w26))] H → va_D A [(q_t, .inr (7, [.ref q_t_house, .ref q_t_images, .ref q_t_pad, .ref q_t_trial, .ref q_t_placing, .ref q_t_seating, .ref q_t_chance])), (q_t_house, .inr (1, [.int t_house_there, .int t_house_sat, .int t_house_hour, .ref q_t_house_ills, .ref q_t_house_roomOf, .ref q_t_house_effects, .ref q_t_house_badFor, .ref q_t_house_likes, .ref q_t_house_sights])), (q_t_placing, .inr (3, [.int t_placing_hours, .int t_placing_number, .ref q_t_placing_needs, .ref q_t_placing_apartFrom, .ref q_t_placing_togetherWith])), (q_t_placing_apartFrom, .inl (G 0, 6, .inl w25)), (q_t_placing_togetherWith, .inl (G 0, 6, .inl w26))] → va_S A s.heap H locs → ∀ ls : Array Slot, lv_has ls 4 [(0, .ref q_t), (1, .int v1), (2, .int v2), (3, .int w24)] → W p l e (kR 12 614) s m args below meth c H locs 0 0 Q (F0 m 23 ls []) := by
        intro k; induction k with
        | zero => intro w24 w25 w26 hf; exact nosome hf
        | succ k ih =>
          intro w24 w25 w26 hf; rw [fX7_rooms_23] at hf
          intro H locs hP hD hS ls hl
          refine lv_iload_n hx hb dX7_rooms_23 rfl (lv_at hl 3 rfl) ?_
          refine lv_iconst (v := (4 : Int32)) hx hb dX7_rooms_24 (by decide) ?_
          refine lv_icmp_gt (tgt := 56) hx hb dX7_rooms_25 (by decide) (fun c35 => ?_) (fun c35 => ?_)
          · have hf := ifp c35 hf
            exact E29 _ _ hf H locs hP hD hS ls (lv_sub hl [] rfl)
          · have hf := ifn c35 hf
            refine lv_aload_n hx hb dX7_rooms_28 rfl (lv_at hl 0 rfl) ?_
            refine va_get (D := D) (ci := 7) (v := .ref q_t_placing) (C := RX7) (T := TX7) (N := 7) hx hb hts inX7 hown hK hP 0 rfl rfl 4 (by decide) (hts _ lfX7_37) (fun _ h9 => h9) rfl dX7_rooms_29 ?_
            refine lv_aload_n hx hb dX7_rooms_32 rfl (lv_at hl 0 rfl) ?_
            refine va_get (D := D) (ci := 7) (v := .ref q_t_house) (C := RX7) (T := TX7) (N := 7) hx hb hts inX7 hown hK hP 0 rfl rfl 0 (by decide) (hts _ lfX7_12) (fun _ h9 => h9) rfl dX7_rooms_33 ?_
            refine va_get (D := D) (ci := 1) (v := .int t_house_there) (C := RX1) (T := TX1) (N := 9) hx hb hts inX1 hown hK hP 1 rfl rfl 0 (by decide) (hts _ lfX7_67) (fun _ h9 => h9) rfl dX7_rooms_36 ?_
            refine lv_iload_n hx hb dX7_rooms_39 rfl (lv_at hl 1 rfl) ?_
            refine lv_iload_n hx hb dX7_rooms_40 rfl (lv_at hl 2 rfl) ?_
            refine lv_iload_n hx hb dX7_rooms_41 rfl (lv_at hl 3 rfl) ?_
            obtain ⟨r36, o37, o38, h39, hf⟩ := bd3E hf
            refine kW_virt hx hb hml hown hts hK hn hA hP hD hS (kX3_countWays l D G fu q_t_placing q_t_placing_needs q_t_placing_apartFrom q_t_placing_togetherWith t_placing_hours t_placing_number w25 w26 t_house_there v1 v2 w24 h39) cvX7_156 ⟨Nat.le_of_ble_eq_true rfl, Nat.le_of_ble_eq_true rfl⟩ [2, 3, 4] rfl rfl [false, false, true, true, true] rfl (w3 := [(q_t_placing, .inr (3, [.int t_placing_hours, .int t_placing_number, .ref q_t_placing_needs, .ref q_t_placing_apartFrom, .ref q_t_placing_togetherWith])), (q_t_placing_apartFrom, .inl (G 0, 6, .inl o37)), (q_t_placing_togetherWith, .inl (G 0, 6, .inl o38))]) [0, 1, 2] rfl rfl 2 rfl rfl rfl hl.1 rfl (Nat.le_of_ble_eq_true rfl) ⟨Nat.zero_le _, Nat.zero_le _⟩ dX7_rooms_42 (fun H locs hP hD hS => ?_)
            have hP : va_P D vwCl [(q_t, .inr (7, [.ref q_t_house, .ref q_t_images, .ref q_t_pad, .ref q_t_trial, .ref q_t_placing, .ref q_t_seating, .ref q_t_chance])), (q_t_house, .inr (1, [.int t_house_there, .int t_house_sat, .int t_house_hour, .ref q_t_house_ills, .ref q_t_house_roomOf, .ref q_t_house_effects, .ref q_t_house_badFor, .ref q_t_house_likes, .ref q_t_house_sights])), (q_t_placing, .inr (3, [.int t_placing_hours, .int t_placing_number, .ref q_t_placing_needs, .ref q_t_placing_apartFrom, .ref q_t_placing_togetherWith])), (q_t_placing_apartFrom, .inl (G 0, 6, .inl o37)), (q_t_placing_togetherWith, .inl (G 0, 6, .inl o38))] H := hP
            have hD : va_D A [(q_t, .inr (7, [.ref q_t_house, .ref q_t_images, .ref q_t_pad, .ref q_t_trial, .ref q_t_placing, .ref q_t_seating, .ref q_t_chance])), (q_t_house, .inr (1, [.int t_house_there, .int t_house_sat, .int t_house_hour, .ref q_t_house_ills, .ref q_t_house_roomOf, .ref q_t_house_effects, .ref q_t_house_badFor, .ref q_t_house_likes, .ref q_t_house_sights])), (q_t_placing, .inr (3, [.int t_placing_hours, .int t_placing_number, .ref q_t_placing_needs, .ref q_t_placing_apartFrom, .ref q_t_placing_togetherWith])), (q_t_placing_apartFrom, .inl (G 0, 6, .inl o37)), (q_t_placing_togetherWith, .inl (G 0, 6, .inl o38))] := hD
            refine lv_if_le (tgt := 50) hx hb dX7_rooms_45 (by decide) (fun c40 => ?_) (fun c40 => ?_)
            · have hf := ifp c40 hf
              obtain ⟨y41, ey41⟩ : ∃ y : Int32, y = w24 + (1 : Int32) := ⟨_, rfl⟩
              have hf := nmeU ey41 hf
              refine lv_iinc (v := y41) (lv' := [(3, .int y41), (0, .ref q_t), (1, .int v1), (2, .int v2)]) hx hb dX7_rooms_50 hl (k := 3) rfl (by rw [ey41]; rfl) (by decide) rfl (fun ls hl => ?_)
              refine lv_goto (tgt := 23) hx hb dX7_rooms_53 (by decide) ?_
              exact ih _ _ _ hf H locs hP hD hS ls (lv_sub hl [1, 2, 3, 0] rfl)
            · have hf := ifn c40 hf
              refine lv_iload_n hx hb dX7_rooms_48 rfl (lv_at hl 3 rfl) ?_
              have hf := hr33 _ hf
              exact RT _ _ _ hf _ _ _ H locs dX7_rooms_49 (rkI _) hP hD hS
      exact L30 fu (1 : Int32) t_placing_apartFrom t_placing_togetherWith h32 H locs hP hD hS ls (lv_sub hl [1, 2, 3, 0] rfl)
    · have hf := ifp c6 hf
      refine lv_bipush (v := (-2 : Int32)) hx hb dX7_rooms_18 (by decide) ?_
      exact RT _ _ _ hf _ _ _ H locs dX7_rooms_20 (rkI _) hP hD hS
set_option maxHeartbeats 4000000 in
set_option maxRecDepth 100000 in
theorem kX7_say (l : Launch) (D : va_G) (G : Nat → ClassId) (q_t q_t_house q_t_images q_t_pad q_t_trial q_t_placing q_t_seating q_t_chance q_t_pad_signs : Nat) (t_pad_length : Int32) (t_pad_signs : Nat → Int32) (v1 : Int32) {r : Int32} {o_t_pad_length : Int32} {o_t_pad_signs : Nat → Int32} (hf : fX7_say t_pad_length t_pad_signs v1 = some (r, o_t_pad_length, o_t_pad_signs)) : rW l D G yX7_say cX7_say 2 (some .int) 3 101 [.ref q_t, .int v1] [(q_t, .inr (7, [.ref q_t_house, .ref q_t_images, .ref q_t_pad, .ref q_t_trial, .ref q_t_placing, .ref q_t_seating, .ref q_t_chance])), (q_t_pad, .inr (2, [.int t_pad_length, .ref q_t_pad_signs])), (q_t_pad_signs, .inl (G 0, 60, .inl t_pad_signs))] [(q_t, .inr (7, [.ref q_t_house, .ref q_t_images, .ref q_t_pad, .ref q_t_trial, .ref q_t_placing, .ref q_t_seating, .ref q_t_chance])), (q_t_pad, .inr (2, [.int o_t_pad_length, .ref q_t_pad_signs])), (q_t_pad_signs, .inl (G 0, 60, .inl o_t_pad_signs))] (some (.int r)) := by
  refine rW_of (by decide) (Nat.le_of_ble_eq_true rfl) ?_
  intro p e s m args below meth c Q A hx hb hml hown hts hK hn hA RET H locs hP hD hS ls hl
  have RT : ∀ (a0_ : Int32) (a1_ : Int32) (a2_ : Nat → Int32), some (a0_, a1_, a2_) = some (r, o_t_pad_length, o_t_pad_signs) → ∀ (pc : Nat) (ls : Array Slot) (ins : Instr) (H : Heap) (locs : List Loc), decode cX7_say pc = .ok (ins, 1) → rk (some .int) (some (.int a0_)) ins → va_P D vwCl [(q_t, .inr (7, [.ref q_t_house, .ref q_t_images, .ref q_t_pad, .ref q_t_trial, .ref q_t_placing, .ref q_t_seating, .ref q_t_chance])), (q_t_pad, .inr (2, [.int a1_, .ref q_t_pad_signs])), (q_t_pad_signs, .inl (G 0, 60, .inl a2_))] H → va_D A [(q_t, .inr (7, [.ref q_t_house, .ref q_t_images, .ref q_t_pad, .ref q_t_trial, .ref q_t_placing, .ref q_t_seating, .ref q_t_chance])), (q_t_pad, .inr (2, [.int a1_, .ref q_t_pad_signs])), (q_t_pad_signs, .inl (G 0, 60, .inl a2_))] → va_S A s.heap H locs → W p l e (kR 3 101) s m args below meth c H locs 0 0 Q (F0 m pc ls [.int a0_]) := by
    intro a0_ a1_ a2_ hy; obtain ⟨rfl, rfl, rfl⟩ := sm3 hy
    exact RET
  have hown : s.vm.findClass RX7 = some m.cls := hown
  have hl : lv_has ls 2 [(0, .ref q_t), (1, .int v1)] := hl
  clear RET
  rw [fX7_say] at hf
  refine lv_iload_n hx hb dX7_say_0 rfl (lv_at hl 1 rfl) ?_
  refine lv_bipush (v := (33 : Int32)) hx hb dX7_say_1 (by decide) ?_
  refine lv_bipush (v := (126 : Int32)) hx hb dX7_say_3 (by decide) ?_
  obtain ⟨r1, h2, hf⟩ := bd1E hf
  refine kO_stat hx hb hml hown hts hK hn hP (kX7_isBetween l D G v1 (33 : Int32) (126 : Int32) h2) csX7_59 ⟨Nat.le_of_ble_eq_true rfl, Nat.le_of_ble_eq_true rfl⟩ [] rfl rfl hl.1 rfl (Nat.le_of_ble_eq_true rfl) ⟨Nat.zero_le _, Nat.zero_le _⟩ dX7_say_5 ?_
  refine lv_if_ne (tgt := 14) hx hb dX7_say_8 (by decide) (fun c3 => ?_) (fun c3 => ?_)
  · have hf := ifn c3 hf
    refine lv_aload_n hx hb dX7_say_14 rfl (lv_at hl 0 rfl) ?_
    refine va_get (D := D) (ci := 7) (v := .ref q_t_pad) (C := RX7) (T := TX7) (N := 7) hx hb hts inX7 hown hK hP 0 rfl rfl 2 (by decide) (hts _ lfX7_23) (fun _ h9 => h9) rfl dX7_say_15 ?_
    obtain ⟨r4, h5, hf⟩ := bd1E hf
    refine kO_virt hx hb hml hown hts hK hn hP (kX2_isFull l D G q_t_pad q_t_pad_signs t_pad_length h5) cvX7_95 ⟨Nat.le_of_ble_eq_true rfl, Nat.le_of_ble_eq_true rfl⟩ [1] rfl 1 rfl rfl rfl hl.1 rfl (Nat.le_of_ble_eq_true rfl) ⟨Nat.zero_le _, Nat.zero_le _⟩ dX7_say_18 ?_
    refine lv_if_eq (tgt := 27) hx hb dX7_say_21 (by decide) (fun c6 => ?_) (fun c6 => ?_)
    · have hf := ifp c6 hf
      refine lv_aload_n hx hb dX7_say_27 rfl (lv_at hl 0 rfl) ?_
      refine va_get (D := D) (ci := 7) (v := .ref q_t_pad) (C := RX7) (T := TX7) (N := 7) hx hb hts inX7 hown hK hP 0 rfl rfl 2 (by decide) (hts _ lfX7_23) (fun _ h9 => h9) rfl dX7_say_28 ?_
      refine lv_iload_n hx hb dX7_say_31 rfl (lv_at hl 1 rfl) ?_
      obtain ⟨o7, o8, h9, hf⟩ := bd2E hf
      refine kW_virt0 hx hb hml hown hts hK hn hA hP hD hS (kX2_write l D G q_t_pad q_t_pad_signs t_pad_length t_pad_signs v1 h9) cvX7_99 ⟨Nat.le_of_ble_eq_true rfl, Nat.le_of_ble_eq_true rfl⟩ [1, 2] rfl rfl [false, true, true] rfl (w3 := [(q_t_pad, .inr (2, [.int o7, .ref q_t_pad_signs])), (q_t_pad_signs, .inl (G 0, 60, .inl o8))]) [0, 1] rfl rfl 1 rfl rfl rfl hl.1 rfl (Nat.le_of_ble_eq_true rfl) ⟨Nat.zero_le _, Nat.zero_le _⟩ dX7_say_32 (fun H locs hP hD hS => ?_)
      have hP : va_P D vwCl [(q_t, .inr (7, [.ref q_t_house, .ref q_t_images, .ref q_t_pad, .ref q_t_trial, .ref q_t_placing, .ref q_t_seating, .ref q_t_chance])), (q_t_pad, .inr (2, [.int o7, .ref q_t_pad_signs])), (q_t_pad_signs, .inl (G 0, 60, .inl o8))] H := hP
      have hD : va_D A [(q_t, .inr (7, [.ref q_t_house, .ref q_t_images, .ref q_t_pad, .ref q_t_trial, .ref q_t_placing, .ref q_t_seating, .ref q_t_chance])), (q_t_pad, .inr (2, [.int o7, .ref q_t_pad_signs])), (q_t_pad_signs, .inl (G 0, 60, .inl o8))] := hD
      refine lv_aload_n hx hb dX7_say_35 rfl (lv_at hl 0 rfl) ?_
      refine va_get (D := D) (ci := 7) (v := .ref q_t_pad) (C := RX7) (T := TX7) (N := 7) hx hb hts inX7 hown hK hP 0 rfl rfl 2 (by decide) (hts _ lfX7_23) (fun _ h9 => h9) rfl dX7_say_36 ?_
      refine va_get (D := D) (ci := 2) (v := .int o7) (C := RX2) (T := TX2) (N := 2) hx hb hts inX2 hown hK hP 1 rfl rfl 0 (by decide) (hts _ lfX7_102) (fun _ h9 => h9) rfl dX7_say_39 ?_
      exact RT _ _ _ hf _ _ _ H locs dX7_say_42 (rkI _) hP hD hS
    · have hf := ifn c6 hf
      refine lv_bipush (v := (-4 : Int32)) hx hb dX7_say_24 (by decide) ?_
      exact RT _ _ _ hf _ _ _ H locs dX7_say_26 (rkI _) hP hD hS
  · have hf := ifp c3 hf
    refine lv_bipush (v := (-2 : Int32)) hx hb dX7_say_11 (by decide) ?_
    exact RT _ _ _ hf _ _ _ H locs dX7_say_13 (rkI _) hP hD hS
set_option maxHeartbeats 4000000 in
set_option maxRecDepth 100000 in
theorem kX7_seats (l : Launch) (D : va_G) (G : Nat → ClassId) (fu : Nat) (q_t q_t_house q_t_images q_t_pad q_t_trial q_t_placing q_t_seating q_t_chance q_t_house_ills q_t_house_roomOf q_t_house_effects q_t_house_badFor q_t_house_likes q_t_house_sights q_t_seating_most : Nat) (t_house_there : Int32) (t_house_sat : Int32) (t_house_hour : Int32) (t_house_likes : Nat → Int32) (t_seating_most : Nat → Int32) (v1 : Int32) {r : Int32} {o_t_seating_most : Nat → Int32} (hf : fX7_seats fu t_house_there t_house_likes t_seating_most v1 = some (r, o_t_seating_most)) : rW l D G yX7_seats cX7_seats 2 (some .int) 4 130 [.ref q_t, .int v1] [(q_t, .inr (7, [.ref q_t_house, .ref q_t_images, .ref q_t_pad, .ref q_t_trial, .ref q_t_placing, .ref q_t_seating, .ref q_t_chance])), (q_t_house, .inr (1, [.int t_house_there, .int t_house_sat, .int t_house_hour, .ref q_t_house_ills, .ref q_t_house_roomOf, .ref q_t_house_effects, .ref q_t_house_badFor, .ref q_t_house_likes, .ref q_t_house_sights])), (q_t_house_likes, .inl (G 0, 6, .inl t_house_likes)), (q_t_seating, .inr (4, [.ref q_t_seating_most])), (q_t_seating_most, .inl (G 0, 448, .inl t_seating_most))] [(q_t, .inr (7, [.ref q_t_house, .ref q_t_images, .ref q_t_pad, .ref q_t_trial, .ref q_t_placing, .ref q_t_seating, .ref q_t_chance])), (q_t_house, .inr (1, [.int t_house_there, .int t_house_sat, .int t_house_hour, .ref q_t_house_ills, .ref q_t_house_roomOf, .ref q_t_house_effects, .ref q_t_house_badFor, .ref q_t_house_likes, .ref q_t_house_sights])), (q_t_house_likes, .inl (G 0, 6, .inl t_house_likes)), (q_t_seating, .inr (4, [.ref q_t_seating_most])), (q_t_seating_most, .inl (G 0, 448, .inl o_t_seating_most))] (some (.int r)) := by
  refine rW_of (by decide) (Nat.le_of_ble_eq_true rfl) ?_
  intro p e s m args below meth c Q A hx hb hml hown hts hK hn hA RET H locs hP hD hS ls hl
  have RT : ∀ (a0_ : Int32) (a1_ : Nat → Int32), some (a0_, a1_) = some (r, o_t_seating_most) → ∀ (pc : Nat) (ls : Array Slot) (ins : Instr) (H : Heap) (locs : List Loc), decode cX7_seats pc = .ok (ins, 1) → rk (some .int) (some (.int a0_)) ins → va_P D vwCl [(q_t, .inr (7, [.ref q_t_house, .ref q_t_images, .ref q_t_pad, .ref q_t_trial, .ref q_t_placing, .ref q_t_seating, .ref q_t_chance])), (q_t_house, .inr (1, [.int t_house_there, .int t_house_sat, .int t_house_hour, .ref q_t_house_ills, .ref q_t_house_roomOf, .ref q_t_house_effects, .ref q_t_house_badFor, .ref q_t_house_likes, .ref q_t_house_sights])), (q_t_house_likes, .inl (G 0, 6, .inl t_house_likes)), (q_t_seating, .inr (4, [.ref q_t_seating_most])), (q_t_seating_most, .inl (G 0, 448, .inl a1_))] H → va_D A [(q_t, .inr (7, [.ref q_t_house, .ref q_t_images, .ref q_t_pad, .ref q_t_trial, .ref q_t_placing, .ref q_t_seating, .ref q_t_chance])), (q_t_house, .inr (1, [.int t_house_there, .int t_house_sat, .int t_house_hour, .ref q_t_house_ills, .ref q_t_house_roomOf, .ref q_t_house_effects, .ref q_t_house_badFor, .ref q_t_house_likes, .ref q_t_house_sights])), (q_t_house_likes, .inl (G 0, 6, .inl t_house_likes)), (q_t_seating, .inr (4, [.ref q_t_seating_most])), (q_t_seating_most, .inl (G 0, 448, .inl a1_))] → va_S A s.heap H locs → W p l e (kR 4 130) s m args below meth c H locs 0 0 Q (F0 m pc ls [.int a0_]) := by
    intro a0_ a1_ hy; obtain ⟨rfl, rfl⟩ := sm2 hy
    exact RET
  have hown : s.vm.findClass RX7 = some m.cls := hown
  have hl : lv_has ls 2 [(0, .ref q_t), (1, .int v1)] := hl
  clear RET
  rw [fX7_seats] at hf
  refine lv_iload_n hx hb dX7_seats_0 rfl (lv_at hl 1 rfl) ?_
  refine lv_iconst (v := (-1 : Int32)) hx hb dX7_seats_1 (by decide) ?_
  refine lv_iconst (v := (5 : Int32)) hx hb dX7_seats_2 (by decide) ?_
  obtain ⟨r1, h2, hf⟩ := bd1E hf
  refine kO_stat hx hb hml hown hts hK hn hP (kX7_isBetween l D G v1 (-1 : Int32) (5 : Int32) h2) csX7_59 ⟨Nat.le_of_ble_eq_true rfl, Nat.le_of_ble_eq_true rfl⟩ [] rfl rfl hl.1 rfl (Nat.le_of_ble_eq_true rfl) ⟨Nat.zero_le _, Nat.zero_le _⟩ dX7_seats_3 ?_
  refine lv_if_ne (tgt := 11) hx hb dX7_seats_6 (by decide) (fun c3 => ?_) (fun c3 => ?_)
  · have hf := ifn c3 hf
    refine lv_aload_n hx hb dX7_seats_11 rfl (lv_at hl 0 rfl) ?_
    refine va_get (D := D) (ci := 7) (v := .ref q_t_seating) (C := RX7) (T := TX7) (N := 7) hx hb hts inX7 hown hK hP 0 rfl rfl 5 (by decide) (hts _ lfX7_44) (fun _ h9 => h9) rfl dX7_seats_12 ?_
    refine lv_aload_n hx hb dX7_seats_15 rfl (lv_at hl 0 rfl) ?_
    refine va_get (D := D) (ci := 7) (v := .ref q_t_house) (C := RX7) (T := TX7) (N := 7) hx hb hts inX7 hown hK hP 0 rfl rfl 0 (by decide) (hts _ lfX7_12) (fun _ h9 => h9) rfl dX7_seats_16 ?_
    obtain ⟨o4, h5, hf⟩ := bd1E hf
    refine kW_virt0 hx hb hml hown hts hK hn hA hP hD hS (kX4_weigh l D G fu q_t_seating q_t_house q_t_seating_most q_t_house_ills q_t_house_roomOf q_t_house_effects q_t_house_badFor q_t_house_likes q_t_house_sights t_seating_most t_house_there t_house_sat t_house_hour t_house_likes h5) cvX7_160 ⟨Nat.le_of_ble_eq_true rfl, Nat.le_of_ble_eq_true rfl⟩ [3, 4, 1, 2] rfl rfl [false, true, true, true, true] rfl (w3 := [(q_t_house, .inr (1, [.int t_house_there, .int t_house_sat, .int t_house_hour, .ref q_t_house_ills, .ref q_t_house_roomOf, .ref q_t_house_effects, .ref q_t_house_badFor, .ref q_t_house_likes, .ref q_t_house_sights])), (q_t_house_likes, .inl (G 0, 6, .inl t_house_likes)), (q_t_seating, .inr (4, [.ref q_t_seating_most])), (q_t_seating_most, .inl (G 0, 448, .inl o4))]) [2, 3, 0, 1] rfl rfl 3 rfl rfl rfl hl.1 rfl (Nat.le_of_ble_eq_true rfl) ⟨Nat.zero_le _, Nat.zero_le _⟩ dX7_seats_19 (fun H locs hP hD hS => ?_)
    have hP : va_P D vwCl [(q_t, .inr (7, [.ref q_t_house, .ref q_t_images, .ref q_t_pad, .ref q_t_trial, .ref q_t_placing, .ref q_t_seating, .ref q_t_chance])), (q_t_house, .inr (1, [.int t_house_there, .int t_house_sat, .int t_house_hour, .ref q_t_house_ills, .ref q_t_house_roomOf, .ref q_t_house_effects, .ref q_t_house_badFor, .ref q_t_house_likes, .ref q_t_house_sights])), (q_t_house_likes, .inl (G 0, 6, .inl t_house_likes)), (q_t_seating, .inr (4, [.ref q_t_seating_most])), (q_t_seating_most, .inl (G 0, 448, .inl o4))] H := hP
    have hD : va_D A [(q_t, .inr (7, [.ref q_t_house, .ref q_t_images, .ref q_t_pad, .ref q_t_trial, .ref q_t_placing, .ref q_t_seating, .ref q_t_chance])), (q_t_house, .inr (1, [.int t_house_there, .int t_house_sat, .int t_house_hour, .ref q_t_house_ills, .ref q_t_house_roomOf, .ref q_t_house_effects, .ref q_t_house_badFor, .ref q_t_house_likes, .ref q_t_house_sights])), (q_t_house_likes, .inl (G 0, 6, .inl t_house_likes)), (q_t_seating, .inr (4, [.ref q_t_seating_most])), (q_t_seating_most, .inl (G 0, 448, .inl o4))] := hD
    refine lv_iload_n hx hb dX7_seats_22 rfl (lv_at hl 1 rfl) ?_
    refine lv_iconst (v := (-1 : Int32)) hx hb dX7_seats_23 (by decide) ?_
    refine lv_icmp_ne (tgt := 37) hx hb dX7_seats_24 (by decide) (fun c6 => ?_) (fun c6 => ?_)
    · have hf := ifn c6 hf
      refine lv_aload_n hx hb dX7_seats_37 rfl (lv_at hl 0 rfl) ?_
      refine va_get (D := D) (ci := 7) (v := .ref q_t_seating) (C := RX7) (T := TX7) (N := 7) hx hb hts inX7 hown hK hP 0 rfl rfl 5 (by decide) (hts _ lfX7_44) (fun _ h9 => h9) rfl dX7_seats_38 ?_
      refine lv_iload_n hx hb dX7_seats_41 rfl (lv_at hl 1 rfl) ?_
      refine lv_aload_n hx hb dX7_seats_42 rfl (lv_at hl 0 rfl) ?_
      refine va_get (D := D) (ci := 7) (v := .ref q_t_house) (C := RX7) (T := TX7) (N := 7) hx hb hts inX7 hown hK hP 0 rfl rfl 0 (by decide) (hts _ lfX7_12) (fun _ h9 => h9) rfl dX7_seats_43 ?_
      obtain ⟨r7, h8, hf⟩ := bd1E hf
      refine kO_virt hx hb hml hown hts hK hn hP (kX4_seatOf l D G fu q_t_seating q_t_house q_t_seating_most q_t_house_ills q_t_house_roomOf q_t_house_effects q_t_house_badFor q_t_house_likes q_t_house_sights o4 t_house_there t_house_sat t_house_hour t_house_likes v1 h8) cvX7_166 ⟨Nat.le_of_ble_eq_true rfl, Nat.le_of_ble_eq_true rfl⟩ [3, 4, 1, 2] rfl 3 rfl rfl rfl hl.1 rfl (Nat.le_of_ble_eq_true rfl) ⟨Nat.zero_le _, Nat.zero_le _⟩ dX7_seats_46 ?_
      exact RT _ _ hf _ _ _ H locs dX7_seats_49 (rkI _) hP hD hS
    · have hf := ifp c6 hf
      refine lv_aload_n hx hb dX7_seats_27 rfl (lv_at hl 0 rfl) ?_
      refine va_get (D := D) (ci := 7) (v := .ref q_t_seating) (C := RX7) (T := TX7) (N := 7) hx hb hts inX7 hown hK hP 0 rfl rfl 5 (by decide) (hts _ lfX7_44) (fun _ h9 => h9) rfl dX7_seats_28 ?_
      obtain ⟨r9, h10, hf⟩ := bd1E hf
      refine kO_virt hx hb hml hown hts hK hn hP (kX4_mostSeated l D G q_t_seating q_t_seating_most o4 h10) cvX7_163 ⟨Nat.le_of_ble_eq_true rfl, Nat.le_of_ble_eq_true rfl⟩ [3, 4] rfl 3 rfl rfl rfl hl.1 rfl (Nat.le_of_ble_eq_true rfl) ⟨Nat.zero_le _, Nat.zero_le _⟩ dX7_seats_31 ?_
      refine lv_goto (tgt := 49) hx hb dX7_seats_34 (by decide) ?_
      exact RT _ _ hf _ _ _ H locs dX7_seats_49 (rkI _) hP hD hS
  · have hf := ifp c3 hf
    refine lv_iconst (v := (-1 : Int32)) hx hb dX7_seats_9 (by decide) ?_
    exact RT _ _ hf _ _ _ H locs dX7_seats_10 (rkI _) hP hD hS
set_option maxHeartbeats 4000000 in
set_option maxRecDepth 100000 in
theorem kX7_seen (l : Launch) (D : va_G) (G : Nat → ClassId) (q_t q_t_house q_t_images q_t_pad q_t_trial q_t_placing q_t_seating q_t_chance q_t_house_ills q_t_house_roomOf q_t_house_effects q_t_house_badFor q_t_house_likes q_t_house_sights q_t_house_sights_before q_t_house_sights_hours q_t_house_sights_after : Nat) (t_house_there : Int32) (t_house_sat : Int32) (t_house_hour : Int32) (t_house_sights_count : Int32) (t_house_sights_before : Nat → Int32) (t_house_sights_hours : Nat → Int32) (t_house_sights_after : Nat → Int32) (v1 : Int32) (v2 : Int32) (v3 : Int32) {r : Int32} {o_t_house_sights_count : Int32} {o_t_house_sights_before : Nat → Int32} {o_t_house_sights_hours : Nat → Int32} {o_t_house_sights_after : Nat → Int32} (hf : fX7_seen t_house_sights_count t_house_sights_before t_house_sights_hours t_house_sights_after v1 v2 v3 = some (r, o_t_house_sights_count, o_t_house_sights_before, o_t_house_sights_hours, o_t_house_sights_after)) : rW l D G yX7_seen cX7_seen 4 (some .int) 3 103 [.ref q_t, .int v1, .int v2, .int v3] [(q_t, .inr (7, [.ref q_t_house, .ref q_t_images, .ref q_t_pad, .ref q_t_trial, .ref q_t_placing, .ref q_t_seating, .ref q_t_chance])), (q_t_house, .inr (1, [.int t_house_there, .int t_house_sat, .int t_house_hour, .ref q_t_house_ills, .ref q_t_house_roomOf, .ref q_t_house_effects, .ref q_t_house_badFor, .ref q_t_house_likes, .ref q_t_house_sights])), (q_t_house_sights, .inr (5, [.int t_house_sights_count, .ref q_t_house_sights_before, .ref q_t_house_sights_hours, .ref q_t_house_sights_after])), (q_t_house_sights_before, .inl (G 0, 8, .inl t_house_sights_before)), (q_t_house_sights_hours, .inl (G 0, 8, .inl t_house_sights_hours)), (q_t_house_sights_after, .inl (G 0, 8, .inl t_house_sights_after))] [(q_t, .inr (7, [.ref q_t_house, .ref q_t_images, .ref q_t_pad, .ref q_t_trial, .ref q_t_placing, .ref q_t_seating, .ref q_t_chance])), (q_t_house, .inr (1, [.int t_house_there, .int t_house_sat, .int t_house_hour, .ref q_t_house_ills, .ref q_t_house_roomOf, .ref q_t_house_effects, .ref q_t_house_badFor, .ref q_t_house_likes, .ref q_t_house_sights])), (q_t_house_sights, .inr (5, [.int o_t_house_sights_count, .ref q_t_house_sights_before, .ref q_t_house_sights_hours, .ref q_t_house_sights_after])), (q_t_house_sights_before, .inl (G 0, 8, .inl o_t_house_sights_before)), (q_t_house_sights_hours, .inl (G 0, 8, .inl o_t_house_sights_hours)), (q_t_house_sights_after, .inl (G 0, 8, .inl o_t_house_sights_after))] (some (.int r)) := by
  refine rW_of (by decide) (Nat.le_of_ble_eq_true rfl) ?_
  intro p e s m args below meth c Q A hx hb hml hown hts hK hn hA RET H locs hP hD hS ls hl
  have RT : ∀ (a0_ : Int32) (a1_ : Int32) (a2_ : Nat → Int32) (a3_ : Nat → Int32) (a4_ : Nat → Int32), some (a0_, a1_, a2_, a3_, a4_) = some (r, o_t_house_sights_count, o_t_house_sights_before, o_t_house_sights_hours, o_t_house_sights_after) → ∀ (pc : Nat) (ls : Array Slot) (ins : Instr) (H : Heap) (locs : List Loc), decode cX7_seen pc = .ok (ins, 1) → rk (some .int) (some (.int a0_)) ins → va_P D vwCl [(q_t, .inr (7, [.ref q_t_house, .ref q_t_images, .ref q_t_pad, .ref q_t_trial, .ref q_t_placing, .ref q_t_seating, .ref q_t_chance])), (q_t_house, .inr (1, [.int t_house_there, .int t_house_sat, .int t_house_hour, .ref q_t_house_ills, .ref q_t_house_roomOf, .ref q_t_house_effects, .ref q_t_house_badFor, .ref q_t_house_likes, .ref q_t_house_sights])), (q_t_house_sights, .inr (5, [.int a1_, .ref q_t_house_sights_before, .ref q_t_house_sights_hours, .ref q_t_house_sights_after])), (q_t_house_sights_before, .inl (G 0, 8, .inl a2_)), (q_t_house_sights_hours, .inl (G 0, 8, .inl a3_)), (q_t_house_sights_after, .inl (G 0, 8, .inl a4_))] H → va_D A [(q_t, .inr (7, [.ref q_t_house, .ref q_t_images, .ref q_t_pad, .ref q_t_trial, .ref q_t_placing, .ref q_t_seating, .ref q_t_chance])), (q_t_house, .inr (1, [.int t_house_there, .int t_house_sat, .int t_house_hour, .ref q_t_house_ills, .ref q_t_house_roomOf, .ref q_t_house_effects, .ref q_t_house_badFor, .ref q_t_house_likes, .ref q_t_house_sights])), (q_t_house_sights, .inr (5, [.int a1_, .ref q_t_house_sights_before, .ref q_t_house_sights_hours, .ref q_t_house_sights_after])), (q_t_house_sights_before, .inl (G 0, 8, .inl a2_)), (q_t_house_sights_hours, .inl (G 0, 8, .inl a3_)), (q_t_house_sights_after, .inl (G 0, 8, .inl a4_))] → va_S A s.heap H locs → W p l e (kR 3 103) s m args below meth c H locs 0 0 Q (F0 m pc ls [.int a0_]) := by
    intro a0_ a1_ a2_ a3_ a4_ hy; obtain ⟨rfl, rfl, rfl, rfl, rfl⟩ := sm5 hy
    exact RET
  have hown : s.vm.findClass RX7 = some m.cls := hown
  have hl : lv_has ls 4 [(0, .ref q_t), (1, .int v1), (2, .int v2), (3, .int v3)] := hl
  clear RET
  rw [fX7_seen] at hf
  refine lv_iload_n hx hb dX7_seen_0 rfl (lv_at hl 1 rfl) ?_
  refine lv_iconst (v := (0 : Int32)) hx hb dX7_seen_1 (by decide) ?_
  refine lv_bipush (v := (20 : Int32)) hx hb dX7_seen_2 (by decide) ?_
  obtain ⟨r1, h2, hf⟩ := bd1E hf
  refine kO_stat hx hb hml hown hts hK hn hP (kX7_isBetween l D G v1 (0 : Int32) (20 : Int32) h2) csX7_59 ⟨Nat.le_of_ble_eq_true rfl, Nat.le_of_ble_eq_true rfl⟩ [] rfl rfl hl.1 rfl (Nat.le_of_ble_eq_true rfl) ⟨Nat.zero_le _, Nat.zero_le _⟩ dX7_seen_4 ?_
  refine lv_if_eq (tgt := 30) hx hb dX7_seen_7 (by decide) (fun c3 => ?_) (fun c3 => ?_)
  · have hf := ifp c3 hf
    refine lv_bipush (v := (-2 : Int32)) hx hb dX7_seen_30 (by decide) ?_
    exact RT _ _ _ _ _ hf _ _ _ H locs dX7_seen_32 (rkI _) hP hD hS
  · have hf := ifn c3 hf
    refine lv_iload_n hx hb dX7_seen_10 rfl (lv_at hl 2 rfl) ?_
    refine lv_iconst (v := (1 : Int32)) hx hb dX7_seen_11 (by decide) ?_
    refine lv_bipush (v := (9 : Int32)) hx hb dX7_seen_12 (by decide) ?_
    obtain ⟨r4, h5, hf⟩ := bd1E hf
    refine kO_stat hx hb hml hown hts hK hn hP (kX7_isBetween l D G v2 (1 : Int32) (9 : Int32) h5) csX7_59 ⟨Nat.le_of_ble_eq_true rfl, Nat.le_of_ble_eq_true rfl⟩ [] rfl rfl hl.1 rfl (Nat.le_of_ble_eq_true rfl) ⟨Nat.zero_le _, Nat.zero_le _⟩ dX7_seen_14 ?_
    refine lv_if_eq (tgt := 30) hx hb dX7_seen_17 (by decide) (fun c6 => ?_) (fun c6 => ?_)
    · have hf := ifp c6 hf
      refine lv_bipush (v := (-2 : Int32)) hx hb dX7_seen_30 (by decide) ?_
      exact RT _ _ _ _ _ hf _ _ _ H locs dX7_seen_32 (rkI _) hP hD hS
    · have hf := ifn c6 hf
      refine lv_iload_n hx hb dX7_seen_20 rfl (lv_at hl 3 rfl) ?_
      refine lv_iconst (v := (0 : Int32)) hx hb dX7_seen_21 (by decide) ?_
      refine lv_bipush (v := (20 : Int32)) hx hb dX7_seen_22 (by decide) ?_
      obtain ⟨r7, h8, hf⟩ := bd1E hf
      refine kO_stat hx hb hml hown hts hK hn hP (kX7_isBetween l D G v3 (0 : Int32) (20 : Int32) h8) csX7_59 ⟨Nat.le_of_ble_eq_true rfl, Nat.le_of_ble_eq_true rfl⟩ [] rfl rfl hl.1 rfl (Nat.le_of_ble_eq_true rfl) ⟨Nat.zero_le _, Nat.zero_le _⟩ dX7_seen_24 ?_
      refine lv_if_ne (tgt := 33) hx hb dX7_seen_27 (by decide) (fun c9 => ?_) (fun c9 => ?_)
      · have hf := ifn c9 hf
        refine lv_aload_n hx hb dX7_seen_33 rfl (lv_at hl 0 rfl) ?_
        refine va_get (D := D) (ci := 7) (v := .ref q_t_house) (C := RX7) (T := TX7) (N := 7) hx hb hts inX7 hown hK hP 0 rfl rfl 0 (by decide) (hts _ lfX7_12) (fun _ h9 => h9) rfl dX7_seen_34 ?_
        refine va_get (D := D) (ci := 1) (v := .ref q_t_house_sights) (C := RX1) (T := TX1) (N := 9) hx hb hts inX1 hown hK hP 1 rfl rfl 8 (by decide) (hts _ lfX7_172) (fun _ h9 => h9) rfl dX7_seen_37 ?_
        obtain ⟨r10, h11, hf⟩ := bd1E hf
        refine kO_virt hx hb hml hown hts hK hn hP (kX5_isFull l D G q_t_house_sights q_t_house_sights_before q_t_house_sights_hours q_t_house_sights_after t_house_sights_count h11) cvX7_176 ⟨Nat.le_of_ble_eq_true rfl, Nat.le_of_ble_eq_true rfl⟩ [2] rfl 2 rfl rfl rfl hl.1 rfl (Nat.le_of_ble_eq_true rfl) ⟨Nat.zero_le _, Nat.zero_le _⟩ dX7_seen_40 ?_
        refine lv_if_eq (tgt := 49) hx hb dX7_seen_43 (by decide) (fun c12 => ?_) (fun c12 => ?_)
        · have hf := ifp c12 hf
          refine lv_aload_n hx hb dX7_seen_49 rfl (lv_at hl 0 rfl) ?_
          refine va_get (D := D) (ci := 7) (v := .ref q_t_house) (C := RX7) (T := TX7) (N := 7) hx hb hts inX7 hown hK hP 0 rfl rfl 0 (by decide) (hts _ lfX7_12) (fun _ h9 => h9) rfl dX7_seen_50 ?_
          refine va_get (D := D) (ci := 1) (v := .ref q_t_house_sights) (C := RX1) (T := TX1) (N := 9) hx hb hts inX1 hown hK hP 1 rfl rfl 8 (by decide) (hts _ lfX7_172) (fun _ h9 => h9) rfl dX7_seen_53 ?_
          refine lv_iload_n hx hb dX7_seen_56 rfl (lv_at hl 1 rfl) ?_
          refine lv_iload_n hx hb dX7_seen_57 rfl (lv_at hl 2 rfl) ?_
          refine lv_iload_n hx hb dX7_seen_58 rfl (lv_at hl 3 rfl) ?_
          obtain ⟨o13, o14, o15, o16, h17, hf⟩ := bd4E hf
          refine kW_virt0 hx hb hml hown hts hK hn hA hP hD hS (kX5_note l D G q_t_house_sights q_t_house_sights_before q_t_house_sights_hours q_t_house_sights_after t_house_sights_count t_house_sights_before t_house_sights_hours t_house_sights_after v1 v2 v3 h17) cvX7_177 ⟨Nat.le_of_ble_eq_true rfl, Nat.le_of_ble_eq_true rfl⟩ [2, 3, 4, 5] rfl rfl [false, false, true, true, true, true] rfl (w3 := [(q_t_house_sights, .inr (5, [.int o13, .ref q_t_house_sights_before, .ref q_t_house_sights_hours, .ref q_t_house_sights_after])), (q_t_house_sights_before, .inl (G 0, 8, .inl o14)), (q_t_house_sights_hours, .inl (G 0, 8, .inl o15)), (q_t_house_sights_after, .inl (G 0, 8, .inl o16))]) [0, 1, 2, 3] rfl rfl 2 rfl rfl rfl hl.1 rfl (Nat.le_of_ble_eq_true rfl) ⟨Nat.zero_le _, Nat.zero_le _⟩ dX7_seen_59 (fun H locs hP hD hS => ?_)
          have hP : va_P D vwCl [(q_t, .inr (7, [.ref q_t_house, .ref q_t_images, .ref q_t_pad, .ref q_t_trial, .ref q_t_placing, .ref q_t_seating, .ref q_t_chance])), (q_t_house, .inr (1, [.int t_house_there, .int t_house_sat, .int t_house_hour, .ref q_t_house_ills, .ref q_t_house_roomOf, .ref q_t_house_effects, .ref q_t_house_badFor, .ref q_t_house_likes, .ref q_t_house_sights])), (q_t_house_sights, .inr (5, [.int o13, .ref q_t_house_sights_before, .ref q_t_house_sights_hours, .ref q_t_house_sights_after])), (q_t_house_sights_before, .inl (G 0, 8, .inl o14)), (q_t_house_sights_hours, .inl (G 0, 8, .inl o15)), (q_t_house_sights_after, .inl (G 0, 8, .inl o16))] H := hP
          have hD : va_D A [(q_t, .inr (7, [.ref q_t_house, .ref q_t_images, .ref q_t_pad, .ref q_t_trial, .ref q_t_placing, .ref q_t_seating, .ref q_t_chance])), (q_t_house, .inr (1, [.int t_house_there, .int t_house_sat, .int t_house_hour, .ref q_t_house_ills, .ref q_t_house_roomOf, .ref q_t_house_effects, .ref q_t_house_badFor, .ref q_t_house_likes, .ref q_t_house_sights])), (q_t_house_sights, .inr (5, [.int o13, .ref q_t_house_sights_before, .ref q_t_house_sights_hours, .ref q_t_house_sights_after])), (q_t_house_sights_before, .inl (G 0, 8, .inl o14)), (q_t_house_sights_hours, .inl (G 0, 8, .inl o15)), (q_t_house_sights_after, .inl (G 0, 8, .inl o16))] := hD
          refine lv_aload_n hx hb dX7_seen_62 rfl (lv_at hl 0 rfl) ?_
          refine va_get (D := D) (ci := 7) (v := .ref q_t_house) (C := RX7) (T := TX7) (N := 7) hx hb hts inX7 hown hK hP 0 rfl rfl 0 (by decide) (hts _ lfX7_12) (fun _ h9 => h9) rfl dX7_seen_63 ?_
          refine va_get (D := D) (ci := 1) (v := .ref q_t_house_sights) (C := RX1) (T := TX1) (N := 9) hx hb hts inX1 hown hK hP 1 rfl rfl 8 (by decide) (hts _ lfX7_172) (fun _ h9 => h9) rfl dX7_seen_66 ?_
          refine va_get (D := D) (ci := 5) (v := .int o13) (C := RX5) (T := TX5) (N := 4) hx hb hts inX5 hown hK hP 2 rfl rfl 0 (by decide) (hts _ lfX7_181) (fun _ h9 => h9) rfl dX7_seen_69 ?_
          exact RT _ _ _ _ _ hf _ _ _ H locs dX7_seen_72 (rkI _) hP hD hS
        · have hf := ifn c12 hf
          refine lv_bipush (v := (-4 : Int32)) hx hb dX7_seen_46 (by decide) ?_
          exact RT _ _ _ _ _ hf _ _ _ H locs dX7_seen_48 (rkI _) hP hD hS
      · have hf := ifp c9 hf
        refine lv_bipush (v := (-2 : Int32)) hx hb dX7_seen_30 (by decide) ?_
        exact RT _ _ _ _ _ hf _ _ _ H locs dX7_seen_32 (rkI _) hP hD hS
set_option maxHeartbeats 4000000 in
set_option maxRecDepth 100000 in
theorem kX7_stays (l : Launch) (D : va_G) (G : Nat → ClassId) (fu : Nat) (q_t q_t_house q_t_images q_t_pad q_t_trial q_t_placing q_t_seating q_t_chance q_t_house_ills q_t_house_roomOf q_t_house_effects q_t_house_badFor q_t_house_likes q_t_house_sights : Nat) (t_house_there : Int32) (t_house_sat : Int32) (t_house_hour : Int32) (t_house_ills : Nat → Int32) (t_house_roomOf : Nat → Int32) (t_house_effects : Nat → Int32) (t_house_badFor : Nat → Int32) (v1 : Int32) {r : Int32} (hf : fX7_stays fu t_house_there t_house_ills t_house_roomOf t_house_effects t_house_badFor v1 = some r) : rO l D G yX7_stays cX7_stays 3 (some .int) 4 134 [.ref q_t, .int v1] [(q_t, .inr (7, [.ref q_t_house, .ref q_t_images, .ref q_t_pad, .ref q_t_trial, .ref q_t_placing, .ref q_t_seating, .ref q_t_chance])), (q_t_house, .inr (1, [.int t_house_there, .int t_house_sat, .int t_house_hour, .ref q_t_house_ills, .ref q_t_house_roomOf, .ref q_t_house_effects, .ref q_t_house_badFor, .ref q_t_house_likes, .ref q_t_house_sights])), (q_t_house_ills, .inl (G 0, 18, .inl t_house_ills)), (q_t_house_roomOf, .inl (G 0, 6, .inl t_house_roomOf)), (q_t_house_effects, .inl (G 0, 12, .inl t_house_effects)), (q_t_house_badFor, .inl (G 0, 36, .inl t_house_badFor))] (some (.int r)) := by
  refine rO_of (by decide) (Nat.le_of_ble_eq_true rfl) ?_
  intro p e s m args below meth c Q hx hb hml hown hts hK hn hP RET ls hl
  have RT : ∀ (a0_ : Int32), some a0_ = some r → ∀ (pc : Nat) (ls : Array Slot) (ins : Instr), decode cX7_stays pc = .ok (ins, 1) → rk (some .int) (some (.int a0_)) ins → W p l e (kR 4 134) s m args below meth c s.heap [] 0 0 Q (F0 m pc ls [.int a0_]) := by
    intro a0_ hy; obtain rfl := sm1 hy
    exact RET
  have hown : s.vm.findClass RX7 = some m.cls := hown
  have hl : lv_has ls 3 [(0, .ref q_t), (1, .int v1)] := hl
  clear RET
  rw [fX7_stays] at hf
  refine lv_aload_n hx hb dX7_stays_0 rfl (lv_at hl 0 rfl) ?_
  refine va_get (D := D) (ci := 7) (v := .ref q_t_house) (C := RX7) (T := TX7) (N := 7) hx hb hts inX7 hown hK hP 0 rfl rfl 0 (by decide) (hts _ lfX7_12) (fun _ h9 => h9) rfl dX7_stays_1 ?_
  refine lv_iload_n hx hb dX7_stays_4 rfl (lv_at hl 1 rfl) ?_
  obtain ⟨r1, h2, hf⟩ := bd1E hf
  refine kO_virt hx hb hml hown hts hK hn hP (kX1_isThere l D G q_t_house q_t_house_ills q_t_house_roomOf q_t_house_effects q_t_house_badFor q_t_house_likes q_t_house_sights t_house_there t_house_sat t_house_hour v1 h2) cvX7_77 ⟨Nat.le_of_ble_eq_true rfl, Nat.le_of_ble_eq_true rfl⟩ [1] rfl 1 rfl rfl rfl hl.1 rfl (Nat.le_of_ble_eq_true rfl) ⟨Nat.zero_le _, Nat.zero_le _⟩ dX7_stays_5 ?_
  refine lv_if_ne (tgt := 13) hx hb dX7_stays_8 (by decide) (fun c3 => ?_) (fun c3 => ?_)
  · have hf := ifn c3 hf
    refine lv_aload_n hx hb dX7_stays_13 rfl (lv_at hl 0 rfl) ?_
    refine va_get (D := D) (ci := 7) (v := .ref q_t_house) (C := RX7) (T := TX7) (N := 7) hx hb hts inX7 hown hK hP 0 rfl rfl 0 (by decide) (hts _ lfX7_12) (fun _ h9 => h9) rfl dX7_stays_14 ?_
    refine lv_iload_n hx hb dX7_stays_17 rfl (lv_at hl 1 rfl) ?_
    obtain ⟨r4, h5, hf⟩ := bd1E hf
    refine kO_virt hx hb hml hown hts hK hn hP (kX1_hoursStaying l D G fu q_t_house q_t_house_ills q_t_house_roomOf q_t_house_effects q_t_house_badFor q_t_house_likes q_t_house_sights t_house_there t_house_sat t_house_hour t_house_ills t_house_roomOf t_house_effects t_house_badFor v1 h5) cvX7_140 ⟨Nat.le_of_ble_eq_true rfl, Nat.le_of_ble_eq_true rfl⟩ [1, 2, 3, 4, 5] rfl 1 rfl rfl rfl hl.1 rfl (Nat.le_of_ble_eq_true rfl) ⟨Nat.zero_le _, Nat.zero_le _⟩ dX7_stays_18 ?_
    refine lv_istore_n (lv' := [(2, .int r4), (0, .ref q_t), (1, .int v1)]) hx hb dX7_stays_21 rfl hl (by decide) rfl (fun ls hl => ?_)
    refine lv_iload_n hx hb dX7_stays_22 rfl (lv_at hl 0 rfl) ?_
    refine lv_bipush (v := (60 : Int32)) hx hb dX7_stays_23 (by decide) ?_
    refine lv_icmp_gt (tgt := 32) hx hb dX7_stays_25 (by decide) (fun c6 => ?_) (fun c6 => ?_)
    · have hf := ifp c6 hf
      refine lv_bipush (v := (-6 : Int32)) hx hb dX7_stays_32 (by decide) ?_
      exact RT _ hf _ _ _ dX7_stays_34 (rkI _)
    · have hf := ifn c6 hf
      refine lv_iload_n hx hb dX7_stays_28 rfl (lv_at hl 0 rfl) ?_
      refine lv_goto (tgt := 34) hx hb dX7_stays_29 (by decide) ?_
      exact RT _ hf _ _ _ dX7_stays_34 (rkI _)
  · have hf := ifp c3 hf
    refine lv_iconst (v := (-1 : Int32)) hx hb dX7_stays_11 (by decide) ?_
    exact RT _ hf _ _ _ dX7_stays_12 (rkI _)
set_option maxHeartbeats 4000000 in
set_option maxRecDepth 100000 in
theorem kX7_tellBad (l : Launch) (D : va_G) (G : Nat → ClassId) (q_t q_t_house q_t_images q_t_pad q_t_trial q_t_placing q_t_seating q_t_chance q_t_house_ills q_t_house_roomOf q_t_house_effects q_t_house_badFor q_t_house_likes q_t_house_sights : Nat) (t_house_there : Int32) (t_house_sat : Int32) (t_house_hour : Int32) (t_house_badFor : Nat → Int32) (v1 : Int32) (v2 : Int32) {r : Int32} (hf : fX7_tellBad t_house_badFor v1 v2 = some r) : rO l D G yX7_tellBad cX7_tellBad 3 (some .int) 2 81 [.ref q_t, .int v1, .int v2] [(q_t, .inr (7, [.ref q_t_house, .ref q_t_images, .ref q_t_pad, .ref q_t_trial, .ref q_t_placing, .ref q_t_seating, .ref q_t_chance])), (q_t_house, .inr (1, [.int t_house_there, .int t_house_sat, .int t_house_hour, .ref q_t_house_ills, .ref q_t_house_roomOf, .ref q_t_house_effects, .ref q_t_house_badFor, .ref q_t_house_likes, .ref q_t_house_sights])), (q_t_house_badFor, .inl (G 0, 36, .inl t_house_badFor))] (some (.int r)) := by
  refine rO_of (by decide) (Nat.le_of_ble_eq_true rfl) ?_
  intro p e s m args below meth c Q hx hb hml hown hts hK hn hP RET ls hl
  have RT : ∀ (a0_ : Int32), some a0_ = some r → ∀ (pc : Nat) (ls : Array Slot) (ins : Instr), decode cX7_tellBad pc = .ok (ins, 1) → rk (some .int) (some (.int a0_)) ins → W p l e (kR 2 81) s m args below meth c s.heap [] 0 0 Q (F0 m pc ls [.int a0_]) := by
    intro a0_ hy; obtain rfl := sm1 hy
    exact RET
  have hown : s.vm.findClass RX7 = some m.cls := hown
  have hl : lv_has ls 3 [(0, .ref q_t), (1, .int v1), (2, .int v2)] := hl
  clear RET
  rw [fX7_tellBad] at hf
  refine lv_iload_n hx hb dX7_tellBad_0 rfl (lv_at hl 1 rfl) ?_
  refine lv_bipush (v := (6 : Int32)) hx hb dX7_tellBad_1 (by decide) ?_
  obtain ⟨r1, h2, hf⟩ := bd1E hf
  refine kO_stat hx hb hml hown hts hK hn hP (kX7_isAmong l D G v1 (6 : Int32) h2) csX7_55 ⟨Nat.le_of_ble_eq_true rfl, Nat.le_of_ble_eq_true rfl⟩ [] rfl rfl hl.1 rfl (Nat.le_of_ble_eq_true rfl) ⟨Nat.zero_le _, Nat.zero_le _⟩ dX7_tellBad_3 ?_
  refine lv_if_eq (tgt := 23) hx hb dX7_tellBad_6 (by decide) (fun c3 => ?_) (fun c3 => ?_)
  · have hf := ifp c3 hf
    refine lv_bipush (v := (-2 : Int32)) hx hb dX7_tellBad_23 (by decide) ?_
    exact RT _ hf _ _ _ dX7_tellBad_25 (rkI _)
  · have hf := ifn c3 hf
    refine lv_iload_n hx hb dX7_tellBad_9 rfl (lv_at hl 2 rfl) ?_
    refine lv_bipush (v := (6 : Int32)) hx hb dX7_tellBad_10 (by decide) ?_
    obtain ⟨r4, h5, hf⟩ := bd1E hf
    refine kO_stat hx hb hml hown hts hK hn hP (kX7_isAmong l D G v2 (6 : Int32) h5) csX7_55 ⟨Nat.le_of_ble_eq_true rfl, Nat.le_of_ble_eq_true rfl⟩ [] rfl rfl hl.1 rfl (Nat.le_of_ble_eq_true rfl) ⟨Nat.zero_le _, Nat.zero_le _⟩ dX7_tellBad_12 ?_
    refine lv_if_eq (tgt := 23) hx hb dX7_tellBad_15 (by decide) (fun c6 => ?_) (fun c6 => ?_)
    · have hf := ifp c6 hf
      refine lv_bipush (v := (-2 : Int32)) hx hb dX7_tellBad_23 (by decide) ?_
      exact RT _ hf _ _ _ dX7_tellBad_25 (rkI _)
    · have hf := ifn c6 hf
      refine lv_iload_n hx hb dX7_tellBad_18 rfl (lv_at hl 1 rfl) ?_
      refine lv_iload_n hx hb dX7_tellBad_19 rfl (lv_at hl 2 rfl) ?_
      refine lv_icmp_ne (tgt := 26) hx hb dX7_tellBad_20 (by decide) (fun c7 => ?_) (fun c7 => ?_)
      · have hf := ifn c7 hf
        refine lv_aload_n hx hb dX7_tellBad_26 rfl (lv_at hl 0 rfl) ?_
        refine va_get (D := D) (ci := 7) (v := .ref q_t_house) (C := RX7) (T := TX7) (N := 7) hx hb hts inX7 hown hK hP 0 rfl rfl 0 (by decide) (hts _ lfX7_12) (fun _ h9 => h9) rfl dX7_tellBad_27 ?_
        refine va_get (D := D) (ci := 1) (v := .ref q_t_house_badFor) (C := RX1) (T := TX1) (N := 9) hx hb hts inX1 hown hK hP 1 rfl rfl 6 (by decide) (hts _ lfX7_89) (fun _ h9 => h9) rfl dX7_tellBad_30 ?_
        refine lv_iload_n hx hb dX7_tellBad_33 rfl (lv_at hl 1 rfl) ?_
        refine lv_bipush (v := (6 : Int32)) hx hb dX7_tellBad_34 (by decide) ?_
        refine lv_imul hx hb dX7_tellBad_36 ?_
        refine lv_iload_n hx hb dX7_tellBad_37 rfl (lv_at hl 2 rfl) ?_
        refine lv_iadd hx hb dX7_tellBad_38 ?_
        obtain ⟨x8, ex8, ix8, hf⟩ := ldIE hf
        refine k_iald hx hb hK hP 2 0 rfl rfl ix8 ex8 dX7_tellBad_39 ?_
        refine lv_bipush (v := (10 : Int32)) hx hb dX7_tellBad_40 (by decide) ?_
        refine lv_iadd hx hb dX7_tellBad_42 ?_
        exact RT _ hf _ _ _ dX7_tellBad_43 (rkI _)
      · have hf := ifp c7 hf
        refine lv_bipush (v := (-2 : Int32)) hx hb dX7_tellBad_23 (by decide) ?_
        exact RT _ hf _ _ _ dX7_tellBad_25 (rkI _)
set_option maxHeartbeats 4000000 in
set_option maxRecDepth 100000 in
theorem kX7_tellCounts (l : Launch) (D : va_G) (G : Nat → ClassId) (q_t q_t_house q_t_images q_t_pad q_t_trial q_t_placing q_t_seating q_t_chance q_t_house_ills q_t_house_roomOf q_t_house_effects q_t_house_badFor q_t_house_likes q_t_house_sights q_t_house_sights_before q_t_house_sights_hours q_t_house_sights_after q_t_pad_signs : Nat) (t_house_there : Int32) (t_house_sat : Int32) (t_house_hour : Int32) (t_house_sights_count : Int32) (t_pad_length : Int32) (v1 : Int32) {r : Int32} (hf : fX7_tellCounts t_house_there t_house_sat t_house_hour t_house_sights_count t_pad_length v1 = some r) : rO l D G yX7_tellCounts cX7_tellCounts 2 (some .int) 1 60 [.ref q_t, .int v1] [(q_t, .inr (7, [.ref q_t_house, .ref q_t_images, .ref q_t_pad, .ref q_t_trial, .ref q_t_placing, .ref q_t_seating, .ref q_t_chance])), (q_t_house, .inr (1, [.int t_house_there, .int t_house_sat, .int t_house_hour, .ref q_t_house_ills, .ref q_t_house_roomOf, .ref q_t_house_effects, .ref q_t_house_badFor, .ref q_t_house_likes, .ref q_t_house_sights])), (q_t_house_sights, .inr (5, [.int t_house_sights_count, .ref q_t_house_sights_before, .ref q_t_house_sights_hours, .ref q_t_house_sights_after])), (q_t_pad, .inr (2, [.int t_pad_length, .ref q_t_pad_signs]))] (some (.int r)) := by
  refine rO_of (by decide) (Nat.le_of_ble_eq_true rfl) ?_
  intro p e s m args below meth c Q hx hb hml hown hts hK hn hP RET ls hl
  have RT : ∀ (a0_ : Int32), some a0_ = some r → ∀ (pc : Nat) (ls : Array Slot) (ins : Instr), decode cX7_tellCounts pc = .ok (ins, 1) → rk (some .int) (some (.int a0_)) ins → W p l e (kR 1 60) s m args below meth c s.heap [] 0 0 Q (F0 m pc ls [.int a0_]) := by
    intro a0_ hy; obtain rfl := sm1 hy
    exact RET
  have hown : s.vm.findClass RX7 = some m.cls := hown
  have hl : lv_has ls 2 [(0, .ref q_t), (1, .int v1)] := hl
  clear RET
  rw [fX7_tellCounts] at hf
  refine lv_iload_n hx hb dX7_tellCounts_0 rfl (lv_at hl 1 rfl) ?_
  by_cases c1 : v1 = (0 : Int32)
  · have hf := ifp c1 hf
    refine lv_tableIn (tgt := 36) (off := 35) hx hb dX7_tellCounts_1 (by rw [c1]; decide) (by rw [c1]; decide) (by rw [c1]; rfl) (by decide) ?_
    refine lv_aload_n hx hb dX7_tellCounts_36 rfl (lv_at hl 0 rfl) ?_
    refine va_get (D := D) (ci := 7) (v := .ref q_t_pad) (C := RX7) (T := TX7) (N := 7) hx hb hts inX7 hown hK hP 0 rfl rfl 2 (by decide) (hts _ lfX7_23) (fun _ h9 => h9) rfl dX7_tellCounts_37 ?_
    refine va_get (D := D) (ci := 2) (v := .int t_pad_length) (C := RX2) (T := TX2) (N := 2) hx hb hts inX2 hown hK hP 3 rfl rfl 0 (by decide) (hts _ lfX7_102) (fun _ h9 => h9) rfl dX7_tellCounts_40 ?_
    exact RT _ hf _ _ _ dX7_tellCounts_43 (rkI _)
  have hf := ifn c1 hf
  by_cases c2 : v1 = (1 : Int32)
  · have hf := ifp c2 hf
    refine lv_tableIn (tgt := 44) (off := 43) hx hb dX7_tellCounts_1 (by rw [c2]; decide) (by rw [c2]; decide) (by rw [c2]; rfl) (by decide) ?_
    refine lv_aload_n hx hb dX7_tellCounts_44 rfl (lv_at hl 0 rfl) ?_
    refine va_get (D := D) (ci := 7) (v := .ref q_t_house) (C := RX7) (T := TX7) (N := 7) hx hb hts inX7 hown hK hP 0 rfl rfl 0 (by decide) (hts _ lfX7_12) (fun _ h9 => h9) rfl dX7_tellCounts_45 ?_
    refine va_get (D := D) (ci := 1) (v := .int t_house_there) (C := RX1) (T := TX1) (N := 9) hx hb hts inX1 hown hK hP 1 rfl rfl 0 (by decide) (hts _ lfX7_67) (fun _ h9 => h9) rfl dX7_tellCounts_48 ?_
    exact RT _ hf _ _ _ dX7_tellCounts_51 (rkI _)
  have hf := ifn c2 hf
  by_cases c3 : v1 = (2 : Int32)
  · have hf := ifp c3 hf
    refine lv_tableIn (tgt := 52) (off := 51) hx hb dX7_tellCounts_1 (by rw [c3]; decide) (by rw [c3]; decide) (by rw [c3]; rfl) (by decide) ?_
    refine lv_aload_n hx hb dX7_tellCounts_52 rfl (lv_at hl 0 rfl) ?_
    refine va_get (D := D) (ci := 7) (v := .ref q_t_house) (C := RX7) (T := TX7) (N := 7) hx hb hts inX7 hown hK hP 0 rfl rfl 0 (by decide) (hts _ lfX7_12) (fun _ h9 => h9) rfl dX7_tellCounts_53 ?_
    refine va_get (D := D) (ci := 1) (v := .int t_house_hour) (C := RX1) (T := TX1) (N := 9) hx hb hts inX1 hown hK hP 1 rfl rfl 2 (by decide) (hts _ lfX7_247) (fun _ h9 => h9) rfl dX7_tellCounts_56 ?_
    exact RT _ hf _ _ _ dX7_tellCounts_59 (rkI _)
  have hf := ifn c3 hf
  by_cases c4 : v1 = (3 : Int32)
  · have hf := ifp c4 hf
    refine lv_tableIn (tgt := 60) (off := 59) hx hb dX7_tellCounts_1 (by rw [c4]; decide) (by rw [c4]; decide) (by rw [c4]; rfl) (by decide) ?_
    refine lv_aload_n hx hb dX7_tellCounts_60 rfl (lv_at hl 0 rfl) ?_
    refine va_get (D := D) (ci := 7) (v := .ref q_t_house) (C := RX7) (T := TX7) (N := 7) hx hb hts inX7 hown hK hP 0 rfl rfl 0 (by decide) (hts _ lfX7_12) (fun _ h9 => h9) rfl dX7_tellCounts_61 ?_
    refine va_get (D := D) (ci := 1) (v := .ref q_t_house_sights) (C := RX1) (T := TX1) (N := 9) hx hb hts inX1 hown hK hP 1 rfl rfl 8 (by decide) (hts _ lfX7_172) (fun _ h9 => h9) rfl dX7_tellCounts_64 ?_
    refine va_get (D := D) (ci := 5) (v := .int t_house_sights_count) (C := RX5) (T := TX5) (N := 4) hx hb hts inX5 hown hK hP 2 rfl rfl 0 (by decide) (hts _ lfX7_181) (fun _ h9 => h9) rfl dX7_tellCounts_67 ?_
    exact RT _ hf _ _ _ dX7_tellCounts_70 (rkI _)
  have hf := ifn c4 hf
  by_cases c5 : v1 = (4 : Int32)
  · have hf := ifp c5 hf
    refine lv_tableIn (tgt := 71) (off := 70) hx hb dX7_tellCounts_1 (by rw [c5]; decide) (by rw [c5]; decide) (by rw [c5]; rfl) (by decide) ?_
    refine lv_aload_n hx hb dX7_tellCounts_71 rfl (lv_at hl 0 rfl) ?_
    refine va_get (D := D) (ci := 7) (v := .ref q_t_house) (C := RX7) (T := TX7) (N := 7) hx hb hts inX7 hown hK hP 0 rfl rfl 0 (by decide) (hts _ lfX7_12) (fun _ h9 => h9) rfl dX7_tellCounts_72 ?_
    refine va_get (D := D) (ci := 1) (v := .int t_house_sat) (C := RX1) (T := TX1) (N := 9) hx hb hts inX1 hown hK hP 1 rfl rfl 1 (by decide) (hts _ lfX7_250) (fun _ h9 => h9) rfl dX7_tellCounts_75 ?_
    exact RT _ hf _ _ _ dX7_tellCounts_78 (rkI _)
  have hf := ifn c5 hf
  refine lv_tableOut (tgt := 79) hx hb dX7_tellCounts_1 (k_swOut4 c1 c2 c3 c4 c5) (by decide) ?_
  refine lv_bipush (v := (-2 : Int32)) hx hb dX7_tellCounts_79 (by decide) ?_
  exact RT _ hf _ _ _ dX7_tellCounts_81 (rkI _)
set_option maxHeartbeats 4000000 in
set_option maxRecDepth 100000 in
theorem kX7_tellPiece (l : Launch) (D : va_G) (G : Nat → ClassId) (q_t q_t_house q_t_images q_t_pad q_t_trial q_t_placing q_t_seating q_t_chance q_t_house_ills q_t_house_roomOf q_t_house_effects q_t_house_badFor q_t_house_likes q_t_house_sights : Nat) (t_house_there : Int32) (t_house_sat : Int32) (t_house_hour : Int32) (t_house_ills : Nat → Int32) (t_house_roomOf : Nat → Int32) (v1 : Int32) (v2 : Int32) {r : Int32} (hf : fX7_tellPiece t_house_there t_house_ills t_house_roomOf v1 v2 = some r) : rO l D G yX7_tellPiece cX7_tellPiece 3 (some .int) 3 104 [.ref q_t, .int v1, .int v2] [(q_t, .inr (7, [.ref q_t_house, .ref q_t_images, .ref q_t_pad, .ref q_t_trial, .ref q_t_placing, .ref q_t_seating, .ref q_t_chance])), (q_t_house, .inr (1, [.int t_house_there, .int t_house_sat, .int t_house_hour, .ref q_t_house_ills, .ref q_t_house_roomOf, .ref q_t_house_effects, .ref q_t_house_badFor, .ref q_t_house_likes, .ref q_t_house_sights])), (q_t_house_ills, .inl (G 0, 18, .inl t_house_ills)), (q_t_house_roomOf, .inl (G 0, 6, .inl t_house_roomOf))] (some (.int r)) := by
  refine rO_of (by decide) (Nat.le_of_ble_eq_true rfl) ?_
  intro p e s m args below meth c Q hx hb hml hown hts hK hn hP RET ls hl
  have RT : ∀ (a0_ : Int32), some a0_ = some r → ∀ (pc : Nat) (ls : Array Slot) (ins : Instr), decode cX7_tellPiece pc = .ok (ins, 1) → rk (some .int) (some (.int a0_)) ins → W p l e (kR 3 104) s m args below meth c s.heap [] 0 0 Q (F0 m pc ls [.int a0_]) := by
    intro a0_ hy; obtain rfl := sm1 hy
    exact RET
  have hown : s.vm.findClass RX7 = some m.cls := hown
  have hl : lv_has ls 3 [(0, .ref q_t), (1, .int v1), (2, .int v2)] := hl
  clear RET
  rw [fX7_tellPiece] at hf
  refine lv_aload_n hx hb dX7_tellPiece_0 rfl (lv_at hl 0 rfl) ?_
  refine va_get (D := D) (ci := 7) (v := .ref q_t_house) (C := RX7) (T := TX7) (N := 7) hx hb hts inX7 hown hK hP 0 rfl rfl 0 (by decide) (hts _ lfX7_12) (fun _ h9 => h9) rfl dX7_tellPiece_1 ?_
  refine lv_iload_n hx hb dX7_tellPiece_4 rfl (lv_at hl 1 rfl) ?_
  obtain ⟨r1, h2, hf⟩ := bd1E hf
  refine kO_virt hx hb hml hown hts hK hn hP (kX1_isThere l D G q_t_house q_t_house_ills q_t_house_roomOf q_t_house_effects q_t_house_badFor q_t_house_likes q_t_house_sights t_house_there t_house_sat t_house_hour v1 h2) cvX7_77 ⟨Nat.le_of_ble_eq_true rfl, Nat.le_of_ble_eq_true rfl⟩ [1] rfl 1 rfl rfl rfl hl.1 rfl (Nat.le_of_ble_eq_true rfl) ⟨Nat.zero_le _, Nat.zero_le _⟩ dX7_tellPiece_5 ?_
  refine lv_if_eq (tgt := 31) hx hb dX7_tellPiece_8 (by decide) (fun c3 => ?_) (fun c3 => ?_)
  · have hf := ifp c3 hf
    refine lv_bipush (v := (-2 : Int32)) hx hb dX7_tellPiece_31 (by decide) ?_
    exact RT _ hf _ _ _ dX7_tellPiece_33 (rkI _)
  · have hf := ifn c3 hf
    refine lv_iload_n hx hb dX7_tellPiece_11 rfl (lv_at hl 2 rfl) ?_
    refine lv_iconst (v := (4 : Int32)) hx hb dX7_tellPiece_12 (by decide) ?_
    obtain ⟨r4, h5, hf⟩ := bd1E hf
    refine kO_stat hx hb hml hown hts hK hn hP (kX7_isAmong l D G v2 (4 : Int32) h5) csX7_55 ⟨Nat.le_of_ble_eq_true rfl, Nat.le_of_ble_eq_true rfl⟩ [] rfl rfl hl.1 rfl (Nat.le_of_ble_eq_true rfl) ⟨Nat.zero_le _, Nat.zero_le _⟩ dX7_tellPiece_13 ?_
    refine lv_if_eq (tgt := 31) hx hb dX7_tellPiece_16 (by decide) (fun c6 => ?_) (fun c6 => ?_)
    · have hf := ifp c6 hf
      refine lv_bipush (v := (-2 : Int32)) hx hb dX7_tellPiece_31 (by decide) ?_
      exact RT _ hf _ _ _ dX7_tellPiece_33 (rkI _)
    · have hf := ifn c6 hf
      refine lv_aload_n hx hb dX7_tellPiece_19 rfl (lv_at hl 0 rfl) ?_
      refine va_get (D := D) (ci := 7) (v := .ref q_t_house) (C := RX7) (T := TX7) (N := 7) hx hb hts inX7 hown hK hP 0 rfl rfl 0 (by decide) (hts _ lfX7_12) (fun _ h9 => h9) rfl dX7_tellPiece_20 ?_
      refine lv_iload_n hx hb dX7_tellPiece_23 rfl (lv_at hl 1 rfl) ?_
      refine lv_iload_n hx hb dX7_tellPiece_24 rfl (lv_at hl 2 rfl) ?_
      obtain ⟨r7, h8, hf⟩ := bd1E hf
      refine kO_virt hx hb hml hown hts hK hn hP (kX1_tellOf l D G q_t_house q_t_house_ills q_t_house_roomOf q_t_house_effects q_t_house_badFor q_t_house_likes q_t_house_sights t_house_there t_house_sat t_house_hour t_house_ills t_house_roomOf v1 v2 h8) cvX7_127 ⟨Nat.le_of_ble_eq_true rfl, Nat.le_of_ble_eq_true rfl⟩ [1, 2, 3] rfl 1 rfl rfl rfl hl.1 rfl (Nat.le_of_ble_eq_true rfl) ⟨Nat.zero_le _, Nat.zero_le _⟩ dX7_tellPiece_25 ?_
      refine lv_goto (tgt := 33) hx hb dX7_tellPiece_28 (by decide) ?_
      exact RT _ hf _ _ _ dX7_tellPiece_33 (rkI _)
set_option maxHeartbeats 4000000 in
set_option maxRecDepth 100000 in
theorem kX7_tellRoom (l : Launch) (D : va_G) (G : Nat → ClassId) (q_t q_t_house q_t_images q_t_pad q_t_trial q_t_placing q_t_seating q_t_chance q_t_house_ills q_t_house_roomOf q_t_house_effects q_t_house_badFor q_t_house_likes q_t_house_sights : Nat) (t_house_there : Int32) (t_house_sat : Int32) (t_house_hour : Int32) (t_house_effects : Nat → Int32) (v1 : Int32) (v2 : Int32) {r : Int32} (hf : fX7_tellRoom t_house_effects v1 v2 = some r) : rO l D G yX7_tellRoom cX7_tellRoom 3 (some .int) 2 81 [.ref q_t, .int v1, .int v2] [(q_t, .inr (7, [.ref q_t_house, .ref q_t_images, .ref q_t_pad, .ref q_t_trial, .ref q_t_placing, .ref q_t_seating, .ref q_t_chance])), (q_t_house, .inr (1, [.int t_house_there, .int t_house_sat, .int t_house_hour, .ref q_t_house_ills, .ref q_t_house_roomOf, .ref q_t_house_effects, .ref q_t_house_badFor, .ref q_t_house_likes, .ref q_t_house_sights])), (q_t_house_effects, .inl (G 0, 12, .inl t_house_effects))] (some (.int r)) := by
  refine rO_of (by decide) (Nat.le_of_ble_eq_true rfl) ?_
  intro p e s m args below meth c Q hx hb hml hown hts hK hn hP RET ls hl
  have RT : ∀ (a0_ : Int32), some a0_ = some r → ∀ (pc : Nat) (ls : Array Slot) (ins : Instr), decode cX7_tellRoom pc = .ok (ins, 1) → rk (some .int) (some (.int a0_)) ins → W p l e (kR 2 81) s m args below meth c s.heap [] 0 0 Q (F0 m pc ls [.int a0_]) := by
    intro a0_ hy; obtain rfl := sm1 hy
    exact RET
  have hown : s.vm.findClass RX7 = some m.cls := hown
  have hl : lv_has ls 3 [(0, .ref q_t), (1, .int v1), (2, .int v2)] := hl
  clear RET
  rw [fX7_tellRoom] at hf
  refine lv_iload_n hx hb dX7_tellRoom_0 rfl (lv_at hl 1 rfl) ?_
  refine lv_iconst (v := (4 : Int32)) hx hb dX7_tellRoom_1 (by decide) ?_
  obtain ⟨r1, h2, hf⟩ := bd1E hf
  refine kO_stat hx hb hml hown hts hK hn hP (kX7_isAmong l D G v1 (4 : Int32) h2) csX7_55 ⟨Nat.le_of_ble_eq_true rfl, Nat.le_of_ble_eq_true rfl⟩ [] rfl rfl hl.1 rfl (Nat.le_of_ble_eq_true rfl) ⟨Nat.zero_le _, Nat.zero_le _⟩ dX7_tellRoom_2 ?_
  refine lv_if_eq (tgt := 35) hx hb dX7_tellRoom_5 (by decide) (fun c3 => ?_) (fun c3 => ?_)
  · have hf := ifp c3 hf
    refine lv_bipush (v := (-2 : Int32)) hx hb dX7_tellRoom_35 (by decide) ?_
    exact RT _ hf _ _ _ dX7_tellRoom_37 (rkI _)
  · have hf := ifn c3 hf
    refine lv_iload_n hx hb dX7_tellRoom_8 rfl (lv_at hl 2 rfl) ?_
    refine lv_iconst (v := (3 : Int32)) hx hb dX7_tellRoom_9 (by decide) ?_
    obtain ⟨r4, h5, hf⟩ := bd1E hf
    refine kO_stat hx hb hml hown hts hK hn hP (kX7_isAmong l D G v2 (3 : Int32) h5) csX7_55 ⟨Nat.le_of_ble_eq_true rfl, Nat.le_of_ble_eq_true rfl⟩ [] rfl rfl hl.1 rfl (Nat.le_of_ble_eq_true rfl) ⟨Nat.zero_le _, Nat.zero_le _⟩ dX7_tellRoom_10 ?_
    refine lv_if_eq (tgt := 35) hx hb dX7_tellRoom_13 (by decide) (fun c6 => ?_) (fun c6 => ?_)
    · have hf := ifp c6 hf
      refine lv_bipush (v := (-2 : Int32)) hx hb dX7_tellRoom_35 (by decide) ?_
      exact RT _ hf _ _ _ dX7_tellRoom_37 (rkI _)
    · have hf := ifn c6 hf
      refine lv_aload_n hx hb dX7_tellRoom_16 rfl (lv_at hl 0 rfl) ?_
      refine va_get (D := D) (ci := 7) (v := .ref q_t_house) (C := RX7) (T := TX7) (N := 7) hx hb hts inX7 hown hK hP 0 rfl rfl 0 (by decide) (hts _ lfX7_12) (fun _ h9 => h9) rfl dX7_tellRoom_17 ?_
      refine va_get (D := D) (ci := 1) (v := .ref q_t_house_effects) (C := RX1) (T := TX1) (N := 9) hx hb hts inX1 hown hK hP 1 rfl rfl 5 (by decide) (hts _ lfX7_85) (fun _ h9 => h9) rfl dX7_tellRoom_20 ?_
      refine lv_iload_n hx hb dX7_tellRoom_23 rfl (lv_at hl 1 rfl) ?_
      refine lv_iconst (v := (3 : Int32)) hx hb dX7_tellRoom_24 (by decide) ?_
      refine lv_imul hx hb dX7_tellRoom_25 ?_
      refine lv_iload_n hx hb dX7_tellRoom_26 rfl (lv_at hl 2 rfl) ?_
      refine lv_iadd hx hb dX7_tellRoom_27 ?_
      obtain ⟨x7, ex7, ix7, hf⟩ := ldIE hf
      refine k_iald hx hb hK hP 2 0 rfl rfl ix7 ex7 dX7_tellRoom_28 ?_
      refine lv_bipush (v := (10 : Int32)) hx hb dX7_tellRoom_29 (by decide) ?_
      refine lv_iadd hx hb dX7_tellRoom_31 ?_
      refine lv_goto (tgt := 37) hx hb dX7_tellRoom_32 (by decide) ?_
      exact RT _ hf _ _ _ dX7_tellRoom_37 (rkI _)
