set_option maxHeartbeats 4000000 in
set_option maxRecDepth 100000 in
theorem kX7_told (l : Launch) (D : va_G) (G : Nat → ClassId) (q_t q_t_house q_t_images q_t_pad q_t_trial q_t_placing q_t_seating q_t_chance q_t_house_ills q_t_house_roomOf q_t_house_effects q_t_house_badFor q_t_house_likes q_t_house_sights q_t_house_sights_before q_t_house_sights_hours q_t_house_sights_after q_t_pad_signs : Nat) (t_house_there : Int32) (t_house_sat : Int32) (t_house_hour : Int32) (t_house_ills : Nat → Int32) (t_house_roomOf : Nat → Int32) (t_house_effects : Nat → Int32) (t_house_badFor : Nat → Int32) (t_house_likes : Nat → Int32) (t_house_sights_count : Int32) (t_pad_length : Int32) (v1 : Int32) {r : Int32} (hf : fX7_told t_house_there t_house_sat t_house_hour t_house_ills t_house_roomOf t_house_effects t_house_badFor t_house_likes t_house_sights_count t_pad_length v1 = some r) : rO l D G yX7_told cX7_told 2 (some .int) 4 126 [.ref q_t, .int v1] [(q_t, .inr (7, [.ref q_t_house, .ref q_t_images, .ref q_t_pad, .ref q_t_trial, .ref q_t_placing, .ref q_t_seating, .ref q_t_chance])), (q_t_house, .inr (1, [.int t_house_there, .int t_house_sat, .int t_house_hour, .ref q_t_house_ills, .ref q_t_house_roomOf, .ref q_t_house_effects, .ref q_t_house_badFor, .ref q_t_house_likes, .ref q_t_house_sights])), (q_t_house_ills, .inl (G 0, 18, .inl t_house_ills)), (q_t_house_roomOf, .inl (G 0, 6, .inl t_house_roomOf)), (q_t_house_effects, .inl (G 0, 12, .inl t_house_effects)), (q_t_house_badFor, .inl (G 0, 36, .inl t_house_badFor)), (q_t_house_likes, .inl (G 0, 6, .inl t_house_likes)), (q_t_house_sights, .inr (5, [.int t_house_sights_count, .ref q_t_house_sights_before, .ref q_t_house_sights_hours, .ref q_t_house_sights_after])), (q_t_pad, .inr (2, [.int t_pad_length, .ref q_t_pad_signs]))] (some (.int r)) := by
  refine rO_of (by decide) (Nat.le_of_ble_eq_true rfl) ?_
  intro p e s m args below meth c Q hx hb hml hown hts hK hn hP RET ls hl
  have RT : ∀ (a0_ : Int32), some a0_ = some r → ∀ (pc : Nat) (ls : Array Slot) (ins : Instr), decode cX7_told pc = .ok (ins, 1) → rk (some .int) (some (.int a0_)) ins → W p l e (kR 4 126) s m args below meth c s.heap [] 0 0 Q (F0 m pc ls [.int a0_]) := by
    intro a0_ hy; obtain rfl := sm1 hy
    exact RET
  have hown : s.vm.findClass RX7 = some m.cls := hown
  have hl : lv_has ls 2 [(0, .ref q_t), (1, .int v1)] := hl
  clear RET
  rw [fX7_told] at hf
  refine lv_iload_n hx hb dX7_told_0 rfl (lv_at hl 1 rfl) ?_
  refine lv_bipush (v := (10 : Int32)) hx hb dX7_told_1 (by decide) ?_
  refine lv_icmp_ge (tgt := 12) hx hb dX7_told_3 (by decide) (fun c1 => ?_) (fun c1 => ?_)
  · have hf := ifp c1 hf
    refine lv_iload_n hx hb dX7_told_12 rfl (lv_at hl 1 rfl) ?_
    refine lv_bipush (v := (100 : Int32)) hx hb dX7_told_13 (by decide) ?_
    refine lv_icmp_ge (tgt := 33) hx hb dX7_told_15 (by decide) (fun c2 => ?_) (fun c2 => ?_)
    · have hf := ifp c2 hf
      refine lv_iload_n hx hb dX7_told_33 rfl (lv_at hl 1 rfl) ?_
      refine lv_sipush (v := (500 : Int32)) hx hb dX7_told_34 (by decide) ?_
      refine lv_icmp_ge (tgt := 55) hx hb dX7_told_37 (by decide) (fun c3 => ?_) (fun c3 => ?_)
      · have hf := ifp c3 hf
        refine lv_iload_n hx hb dX7_told_55 rfl (lv_at hl 1 rfl) ?_
        refine lv_sipush (v := (600 : Int32)) hx hb dX7_told_56 (by decide) ?_
        refine lv_icmp_ge (tgt := 83) hx hb dX7_told_59 (by decide) (fun c4 => ?_) (fun c4 => ?_)
        · have hf := ifp c4 hf
          refine lv_iload_n hx hb dX7_told_83 rfl (lv_at hl 1 rfl) ?_
          refine lv_sipush (v := (600 : Int32)) hx hb dX7_told_84 (by decide) ?_
          refine lv_isub hx hb dX7_told_87 ?_
          refine lv_bipush (v := (6 : Int32)) hx hb dX7_told_88 (by decide) ?_
          obtain ⟨r5, h6, hf⟩ := bd1E hf
          refine kO_stat hx hb hml hown hts hK hn hP (kX7_isAmong l D G (v1 - (600 : Int32)) (6 : Int32) h6) csX7_55 ⟨Nat.le_of_ble_eq_true rfl, Nat.le_of_ble_eq_true rfl⟩ [] rfl rfl hl.1 rfl (Nat.le_of_ble_eq_true rfl) ⟨Nat.zero_le _, Nat.zero_le _⟩ dX7_told_90 ?_
          refine lv_if_eq (tgt := 112) hx hb dX7_told_93 (by decide) (fun c7 => ?_) (fun c7 => ?_)
          · have hf := ifp c7 hf
            refine lv_bipush (v := (-2 : Int32)) hx hb dX7_told_112 (by decide) ?_
            exact RT _ hf _ _ _ dX7_told_114 (rkI _)
          · have hf := ifn c7 hf
            refine lv_aload_n hx hb dX7_told_96 rfl (lv_at hl 0 rfl) ?_
            refine va_get (D := D) (ci := 7) (v := .ref q_t_house) (C := RX7) (T := TX7) (N := 7) hx hb hts inX7 hown hK hP 0 rfl rfl 0 (by decide) (hts _ lfX7_12) (fun _ h9 => h9) rfl dX7_told_97 ?_
            refine va_get (D := D) (ci := 1) (v := .ref q_t_house_likes) (C := RX1) (T := TX1) (N := 9) hx hb hts inX1 hown hK hP 1 rfl rfl 7 (by decide) (hts _ lfX7_92) (fun _ h9 => h9) rfl dX7_told_100 ?_
            refine lv_iload_n hx hb dX7_told_103 rfl (lv_at hl 1 rfl) ?_
            refine lv_sipush (v := (600 : Int32)) hx hb dX7_told_104 (by decide) ?_
            refine lv_isub hx hb dX7_told_107 ?_
            obtain ⟨x8, ex8, ix8, hf⟩ := ldIE hf
            refine k_iald hx hb hK hP 6 0 rfl rfl ix8 ex8 dX7_told_108 ?_
            refine lv_goto (tgt := 114) hx hb dX7_told_109 (by decide) ?_
            exact RT _ hf _ _ _ dX7_told_114 (rkI _)
        · have hf := ifn c4 hf
          refine lv_aload_n hx hb dX7_told_62 rfl (lv_at hl 0 rfl) ?_
          refine lv_iload_n hx hb dX7_told_63 rfl (lv_at hl 1 rfl) ?_
          refine lv_sipush (v := (500 : Int32)) hx hb dX7_told_64 (by decide) ?_
          refine lv_isub hx hb dX7_told_67 ?_
          refine lv_bipush (v := (6 : Int32)) hx hb dX7_told_68 (by decide) ?_
          refine lv_idiv hx hb dX7_told_70 (by decide) ?_
          refine lv_iload_n hx hb dX7_told_71 rfl (lv_at hl 1 rfl) ?_
          refine lv_sipush (v := (500 : Int32)) hx hb dX7_told_72 (by decide) ?_
          refine lv_isub hx hb dX7_told_75 ?_
          refine lv_bipush (v := (6 : Int32)) hx hb dX7_told_76 (by decide) ?_
          refine lv_irem hx hb dX7_told_78 (by decide) ?_
          obtain ⟨r9, h10, hf⟩ := bd1E hf
          refine kO_virt hx hb hml hown hts hK hn hP (kX7_tellBad l D G q_t q_t_house q_t_images q_t_pad q_t_trial q_t_placing q_t_seating q_t_chance q_t_house_ills q_t_house_roomOf q_t_house_effects q_t_house_badFor q_t_house_likes q_t_house_sights t_house_there t_house_sat t_house_hour t_house_badFor ((v1 - (500 : Int32)) / (6 : Int32)) ((v1 - (500 : Int32)) - (v1 - (500 : Int32)) / (6 : Int32) * (6 : Int32)) h10) cvX7_244 ⟨Nat.le_of_ble_eq_true rfl, Nat.le_of_ble_eq_true rfl⟩ [0, 1, 5] rfl 0 rfl rfl rfl hl.1 rfl (Nat.le_of_ble_eq_true rfl) ⟨Nat.zero_le _, Nat.zero_le _⟩ dX7_told_79 ?_
          exact RT _ hf _ _ _ dX7_told_82 (rkI _)
      · have hf := ifn c3 hf
        refine lv_aload_n hx hb dX7_told_40 rfl (lv_at hl 0 rfl) ?_
        refine lv_iload_n hx hb dX7_told_41 rfl (lv_at hl 1 rfl) ?_
        refine lv_bipush (v := (100 : Int32)) hx hb dX7_told_42 (by decide) ?_
        refine lv_idiv hx hb dX7_told_44 (by decide) ?_
        refine lv_iconst (v := (1 : Int32)) hx hb dX7_told_45 (by decide) ?_
        refine lv_isub hx hb dX7_told_46 ?_
        refine lv_iload_n hx hb dX7_told_47 rfl (lv_at hl 1 rfl) ?_
        refine lv_bipush (v := (100 : Int32)) hx hb dX7_told_48 (by decide) ?_
        refine lv_irem hx hb dX7_told_50 (by decide) ?_
        obtain ⟨r11, h12, hf⟩ := bd1E hf
        refine kO_virt hx hb hml hown hts hK hn hP (kX7_tellRoom l D G q_t q_t_house q_t_images q_t_pad q_t_trial q_t_placing q_t_seating q_t_chance q_t_house_ills q_t_house_roomOf q_t_house_effects q_t_house_badFor q_t_house_likes q_t_house_sights t_house_there t_house_sat t_house_hour t_house_effects ((v1 / (100 : Int32)) - (1 : Int32)) (v1 - v1 / (100 : Int32) * (100 : Int32)) h12) cvX7_241 ⟨Nat.le_of_ble_eq_true rfl, Nat.le_of_ble_eq_true rfl⟩ [0, 1, 4] rfl 0 rfl rfl rfl hl.1 rfl (Nat.le_of_ble_eq_true rfl) ⟨Nat.zero_le _, Nat.zero_le _⟩ dX7_told_51 ?_
        exact RT _ hf _ _ _ dX7_told_54 (rkI _)
    · have hf := ifn c2 hf
      refine lv_aload_n hx hb dX7_told_18 rfl (lv_at hl 0 rfl) ?_
      refine lv_iload_n hx hb dX7_told_19 rfl (lv_at hl 1 rfl) ?_
      refine lv_bipush (v := (10 : Int32)) hx hb dX7_told_20 (by decide) ?_
      refine lv_idiv hx hb dX7_told_22 (by decide) ?_
      refine lv_iconst (v := (1 : Int32)) hx hb dX7_told_23 (by decide) ?_
      refine lv_isub hx hb dX7_told_24 ?_
      refine lv_iload_n hx hb dX7_told_25 rfl (lv_at hl 1 rfl) ?_
      refine lv_bipush (v := (10 : Int32)) hx hb dX7_told_26 (by decide) ?_
      refine lv_irem hx hb dX7_told_28 (by decide) ?_
      obtain ⟨r13, h14, hf⟩ := bd1E hf
      refine kO_virt hx hb hml hown hts hK hn hP (kX7_tellPiece l D G q_t q_t_house q_t_images q_t_pad q_t_trial q_t_placing q_t_seating q_t_chance q_t_house_ills q_t_house_roomOf q_t_house_effects q_t_house_badFor q_t_house_likes q_t_house_sights t_house_there t_house_sat t_house_hour t_house_ills t_house_roomOf ((v1 / (10 : Int32)) - (1 : Int32)) (v1 - v1 / (10 : Int32) * (10 : Int32)) h14) cvX7_238 ⟨Nat.le_of_ble_eq_true rfl, Nat.le_of_ble_eq_true rfl⟩ [0, 1, 2, 3] rfl 0 rfl rfl rfl hl.1 rfl (Nat.le_of_ble_eq_true rfl) ⟨Nat.zero_le _, Nat.zero_le _⟩ dX7_told_29 ?_
      exact RT _ hf _ _ _ dX7_told_32 (rkI _)
  · have hf := ifn c1 hf
    refine lv_aload_n hx hb dX7_told_6 rfl (lv_at hl 0 rfl) ?_
    refine lv_iload_n hx hb dX7_told_7 rfl (lv_at hl 1 rfl) ?_
    obtain ⟨r15, h16, hf⟩ := bd1E hf
    refine kO_virt hx hb hml hown hts hK hn hP (kX7_tellCounts l D G q_t q_t_house q_t_images q_t_pad q_t_trial q_t_placing q_t_seating q_t_chance q_t_house_ills q_t_house_roomOf q_t_house_effects q_t_house_badFor q_t_house_likes q_t_house_sights q_t_house_sights_before q_t_house_sights_hours q_t_house_sights_after q_t_pad_signs t_house_there t_house_sat t_house_hour t_house_sights_count t_pad_length v1 h16) cvX7_235 ⟨Nat.le_of_ble_eq_true rfl, Nat.le_of_ble_eq_true rfl⟩ [0, 1, 7, 8] rfl 0 rfl rfl rfl hl.1 rfl (Nat.le_of_ble_eq_true rfl) ⟨Nat.zero_le _, Nat.zero_le _⟩ dX7_told_8 ?_
    exact RT _ hf _ _ _ dX7_told_11 (rkI _)
set_option maxHeartbeats 4000000 in
set_option maxRecDepth 100000 in
theorem kX7_tries (l : Launch) (D : va_G) (G : Nat → ClassId) (fu : Nat) (q_t q_t_house q_t_images q_t_pad q_t_trial q_t_placing q_t_seating q_t_chance q_t_house_ills q_t_house_roomOf q_t_house_effects q_t_house_badFor q_t_house_likes q_t_house_sights q_t_house_sights_before q_t_house_sights_hours q_t_house_sights_after : Nat) (t_house_there : Int32) (t_house_sat : Int32) (t_house_hour : Int32) (t_house_sights_count : Int32) (t_house_sights_before : Nat → Int32) (t_house_sights_hours : Nat → Int32) (t_house_sights_after : Nat → Int32) (v1 : Int32) {r : Int32} (hf : fX7_tries fu t_house_sights_count t_house_sights_before t_house_sights_hours t_house_sights_after v1 = some r) : rO l D G yX7_tries cX7_tries 7 (some .int) 5 148 [.ref q_t, .int v1] [(q_t, .inr (7, [.ref q_t_house, .ref q_t_images, .ref q_t_pad, .ref q_t_trial, .ref q_t_placing, .ref q_t_seating, .ref q_t_chance])), (q_t_house, .inr (1, [.int t_house_there, .int t_house_sat, .int t_house_hour, .ref q_t_house_ills, .ref q_t_house_roomOf, .ref q_t_house_effects, .ref q_t_house_badFor, .ref q_t_house_likes, .ref q_t_house_sights])), (q_t_house_sights, .inr (5, [.int t_house_sights_count, .ref q_t_house_sights_before, .ref q_t_house_sights_hours, .ref q_t_house_sights_after])), (q_t_house_sights_before, .inl (G 0, 8, .inl t_house_sights_before)), (q_t_house_sights_hours, .inl (G 0, 8, .inl t_house_sights_hours)), (q_t_house_sights_after, .inl (G 0, 8, .inl t_house_sights_after))] (some (.int r)) := by
  refine rO_of (by decide) (Nat.le_of_ble_eq_true rfl) ?_
  intro p e s m args below meth c Q hx hb hml hown hts hK hn hP RET ls hl
  have RT : ∀ (a0_ : Int32), some a0_ = some r → ∀ (pc : Nat) (ls : Array Slot) (ins : Instr), decode cX7_tries pc = .ok (ins, 1) → rk (some .int) (some (.int a0_)) ins → W p l e (kR 5 148) s m args below meth c s.heap [] 0 0 Q (F0 m pc ls [.int a0_]) := by
    intro a0_ hy; obtain rfl := sm1 hy
    exact RET
  have hown : s.vm.findClass RX7 = some m.cls := hown
  have hl : lv_has ls 7 [(0, .ref q_t), (1, .int v1)] := hl
  clear RET
  rw [fX7_tries] at hf
  refine lv_iload_n hx hb dX7_tries_0 rfl (lv_at hl 1 rfl) ?_
  refine lv_iconst (v := (2 : Int32)) hx hb dX7_tries_1 (by decide) ?_
  obtain ⟨r1, h2, hf⟩ := bd1E hf
  refine kO_stat hx hb hml hown hts hK hn hP (kX7_isAmong l D G v1 (2 : Int32) h2) csX7_55 ⟨Nat.le_of_ble_eq_true rfl, Nat.le_of_ble_eq_true rfl⟩ [] rfl rfl hl.1 rfl (Nat.le_of_ble_eq_true rfl) ⟨Nat.zero_le _, Nat.zero_le _⟩ dX7_tries_2 ?_
  refine lv_if_ne (tgt := 11) hx hb dX7_tries_5 (by decide) (fun c3 => ?_) (fun c3 => ?_)
  · have hf := ifn c3 hf
    refine lv_aload_n hx hb dX7_tries_11 rfl (lv_at hl 0 rfl) ?_
    refine va_get (D := D) (ci := 7) (v := .ref q_t_house) (C := RX7) (T := TX7) (N := 7) hx hb hts inX7 hown hK hP 0 rfl rfl 0 (by decide) (hts _ lfX7_12) (fun _ h9 => h9) rfl dX7_tries_12 ?_
    refine va_get (D := D) (ci := 1) (v := .ref q_t_house_sights) (C := RX1) (T := TX1) (N := 9) hx hb hts inX1 hown hK hP 1 rfl rfl 8 (by decide) (hts _ lfX7_172) (fun _ h9 => h9) rfl dX7_tries_15 ?_
    obtain ⟨r4, h5, hf⟩ := bd1E hf
    refine kO_virt hx hb hml hown hts hK hn hP (kX5_fitting l D G fu q_t_house_sights q_t_house_sights_before q_t_house_sights_hours q_t_house_sights_after t_house_sights_count t_house_sights_before t_house_sights_hours t_house_sights_after h5) cvX7_184 ⟨Nat.le_of_ble_eq_true rfl, Nat.le_of_ble_eq_true rfl⟩ [2, 3, 4, 5] rfl 2 rfl rfl rfl hl.1 rfl (Nat.le_of_ble_eq_true rfl) ⟨Nat.zero_le _, Nat.zero_le _⟩ dX7_tries_18 ?_
    refine lv_istore_n (lv' := [(2, .int r4), (0, .ref q_t), (1, .int v1)]) hx hb dX7_tries_21 rfl hl (by decide) rfl (fun ls hl => ?_)
    refine lv_iload_n hx hb dX7_tries_22 rfl (lv_at hl 0 rfl) ?_
    refine lv_if_ne (tgt := 29) hx hb dX7_tries_23 (by decide) (fun c6 => ?_) (fun c6 => ?_)
    · have hf := ifn c6 hf
      refine lv_iconst (v := (0 : Int32)) hx hb dX7_tries_29 (by decide) ?_
      refine lv_istore_n (lv' := [(3, .int (0 : Int32)), (2, .int r4), (0, .ref q_t), (1, .int v1)]) hx hb dX7_tries_30 rfl hl (by decide) rfl (fun ls hl => ?_)
      refine lv_iconst (v := (0 : Int32)) hx hb dX7_tries_31 (by decide) ?_
      refine lv_iload_n hx hb dX7_tries_32 rfl (lv_at hl 1 rfl) ?_
      obtain ⟨r7, h8, hf⟩ := bd1E hf
      refine kO_stat hx hb hml hown hts hK hn hP (kX7_mostLeft l D G fu (0 : Int32) r4 h8) csX7_187 ⟨Nat.le_of_ble_eq_true rfl, Nat.le_of_ble_eq_true rfl⟩ [] rfl rfl hl.1 rfl (Nat.le_of_ble_eq_true rfl) ⟨Nat.zero_le _, Nat.zero_le _⟩ dX7_tries_33 ?_
      refine lv_istore (lv' := [(4, .int r7), (3, .int (0 : Int32)), (2, .int r4), (0, .ref q_t), (1, .int v1)]) hx hb dX7_tries_36 hl (by decide) rfl (fun ls hl => ?_)
      refine lv_iconst (v := (1 : Int32)) hx hb dX7_tries_38 (by decide) ?_
      refine lv_istore (lv' := [(5, .int (1 : Int32)), (4, .int r7), (3, .int (0 : Int32)), (2, .int r4), (0, .ref q_t), (1, .int v1)]) hx hb dX7_tries_39 hl (by decide) rfl (fun ls hl => ?_)
      obtain ⟨u36, u37, h41, hf⟩ := bd2E hf
      have E38 : ∀ (z56 : Int32) (z57 : Int32), some (z56, z57) = some (u36, u37) → ∀ ls : Array Slot, lv_has ls 7 [(1, .int v1), (3, .int z56), (4, .int z57)] → W p l e (kR 5 148) s m args below meth c s.heap [] 0 0 Q (F0 m 76 ls []) := by
        intro z56 z57 hy; obtain ⟨rfl, rfl⟩ := sm2 hy
        intro ls hl
        refine lv_iload_n hx hb dX7_tries_76 rfl (lv_at hl 0 rfl) ?_
        refine lv_if_ne (tgt := 84) hx hb dX7_tries_77 (by decide) (fun c58 => ?_) (fun c58 => ?_)
        · have hf := ifn c58 hf
          refine lv_iload hx hb dX7_tries_84 (lv_at hl 2 rfl) ?_
          exact RT _ hf _ _ _ dX7_tries_86 (rkI _)
        · have hf := ifp c58 hf
          refine lv_iload_n hx hb dX7_tries_80 rfl (lv_at hl 1 rfl) ?_
          refine lv_goto (tgt := 86) hx hb dX7_tries_81 (by decide) ?_
          exact RT _ hf _ _ _ dX7_tries_86 (rkI _)
      have L39 : ∀ (k : Nat) (w33 : Int32) (w34 : Int32) (w35 : Int32), fX7_tries_41 fu r4 k w33 w34 w35 = some (u36, u37) → ∀ ls : Array Slot, lv_has ls 7 [(1, .int v1), (2, .int r4), (3, .int w33), (4, .int w34), (5, .int w35)] → W p l e (kR 5 148) s m args below meth c s.heap [] 0 0 Q (F0 m 41 ls []) := by
        intro k; induction k with
        | zero => intro w33 w34 w35 hf; exact nosome hf
        | succ k ih =>
          intro w33 w34 w35 hf; rw [fX7_tries_41] at hf
          intro ls hl
          refine lv_iload hx hb dX7_tries_41 (lv_at hl 4 rfl) ?_
          refine lv_bipush (v := (20 : Int32)) hx hb dX7_tries_43 (by decide) ?_
          refine lv_icmp_gt (tgt := 76) hx hb dX7_tries_45 (by decide) (fun c44 => ?_) (fun c44 => ?_)
          · have hf := ifp c44 hf
            exact E38 _ _ hf ls (lv_sub hl [0, 2, 3] rfl)
          · have hf := ifn c44 hf
            refine lv_iload hx hb dX7_tries_48 (lv_at hl 4 rfl) ?_
            refine lv_iload_n hx hb dX7_tries_50 rfl (lv_at hl 1 rfl) ?_
            obtain ⟨r45, h46, hf⟩ := bd1E hf
            refine kO_stat hx hb hml hown hts hK hn hP (kX7_mostLeft l D G fu w35 r4 h46) csX7_187 ⟨Nat.le_of_ble_eq_true rfl, Nat.le_of_ble_eq_true rfl⟩ [] rfl rfl hl.1 rfl (Nat.le_of_ble_eq_true rfl) ⟨Nat.zero_le _, Nat.zero_le _⟩ dX7_tries_51 ?_
            refine lv_istore (lv' := [(6, .int r45), (1, .int v1), (2, .int r4), (3, .int w33), (4, .int w34), (5, .int w35)]) hx hb dX7_tries_54 hl (by decide) rfl (fun ls hl => ?_)
            refine lv_iload hx hb dX7_tries_56 (lv_at hl 0 rfl) ?_
            refine lv_iload hx hb dX7_tries_58 (lv_at hl 4 rfl) ?_
            obtain ⟨j48, j49, h55, hf⟩ := bd2E hf
            have E53 : ∀ (z50 : Int32) (z51 : Int32), some (z50, z51) = some (j48, j49) → ∀ ls : Array Slot, lv_has ls 7 [(1, .int v1), (2, .int r4), (3, .int z50), (4, .int z51), (5, .int w35)] → W p l e (kR 5 148) s m args below meth c s.heap [] 0 0 Q (F0 m 70 ls []) := by
              intro z50 z51 hy; obtain ⟨rfl, rfl⟩ := sm2 hy
              intro ls hl
              obtain ⟨y52, ey52⟩ : ∃ y : Int32, y = w35 + (1 : Int32) := ⟨_, rfl⟩
              have hf := nmeU ey52 hf
              refine lv_iinc (v := y52) (lv' := [(5, .int y52), (1, .int v1), (2, .int r4), (3, .int z50), (4, .int z51)]) hx hb dX7_tries_70 hl (k := 4) rfl (by rw [ey52]; rfl) (by decide) rfl (fun ls hl => ?_)
              refine lv_goto (tgt := 41) hx hb dX7_tries_73 (by decide) ?_
              exact ih _ _ _ hf ls (lv_sub hl [1, 2, 3, 4, 0] rfl)
            have hf := h55
            refine lv_icmp_ge (tgt := 70) hx hb dX7_tries_60 (by decide) (fun c54 => ?_) (fun c54 => ?_)
            · have hf := ifp c54 hf
              exact E53 _ _ hf ls (lv_sub hl [1, 2, 3, 4, 5] rfl)
            · have hf := ifn c54 hf
              refine lv_iload hx hb dX7_tries_63 (lv_at hl 0 rfl) ?_
              refine lv_istore (lv' := [(4, .int r45), (6, .int r45), (1, .int v1), (2, .int r4), (3, .int w33), (5, .int w35)]) hx hb dX7_tries_65 hl (by decide) rfl (fun ls hl => ?_)
              refine lv_iload hx hb dX7_tries_67 (lv_at hl 5 rfl) ?_
              refine lv_istore_n (lv' := [(3, .int w35), (4, .int r45), (6, .int r45), (1, .int v1), (2, .int r4), (5, .int w35)]) hx hb dX7_tries_69 rfl hl (by decide) rfl (fun ls hl => ?_)
              exact E53 _ _ hf ls (lv_sub hl [3, 4, 0, 1, 5] rfl)
      exact L39 fu (0 : Int32) r7 (1 : Int32) h41 ls (lv_sub hl [5, 3, 2, 1, 0] rfl)
    · have hf := ifp c6 hf
      refine lv_bipush (v := (-6 : Int32)) hx hb dX7_tries_26 (by decide) ?_
      exact RT _ hf _ _ _ dX7_tries_28 (rkI _)
  · have hf := ifp c3 hf
    refine lv_bipush (v := (-2 : Int32)) hx hb dX7_tries_8 (by decide) ?_
    exact RT _ hf _ _ _ dX7_tries_10 (rkI _)
set_option maxHeartbeats 4000000 in
set_option maxRecDepth 100000 in
theorem kX7_ways (l : Launch) (D : va_G) (G : Nat → ClassId) (fu : Nat) (q_t q_t_house q_t_images q_t_pad q_t_trial q_t_placing q_t_seating q_t_chance q_t_house_ills q_t_house_roomOf q_t_house_effects q_t_house_badFor q_t_house_likes q_t_house_sights q_t_placing_needs q_t_placing_apartFrom q_t_placing_togetherWith : Nat) (t_house_there : Int32) (t_house_sat : Int32) (t_house_hour : Int32) (t_placing_hours : Int32) (t_placing_number : Int32) (t_placing_apartFrom : Nat → Int32) (t_placing_togetherWith : Nat → Int32) (v1 : Int32) (v2 : Int32) (v3 : Int32) {r : Int32} {o_t_placing_apartFrom : Nat → Int32} {o_t_placing_togetherWith : Nat → Int32} (hf : fX7_ways fu t_house_there t_placing_apartFrom t_placing_togetherWith v1 v2 v3 = some (r, o_t_placing_apartFrom, o_t_placing_togetherWith)) : rW l D G yX7_ways cX7_ways 4 (some .int) 12 614 [.ref q_t, .int v1, .int v2, .int v3] [(q_t, .inr (7, [.ref q_t_house, .ref q_t_images, .ref q_t_pad, .ref q_t_trial, .ref q_t_placing, .ref q_t_seating, .ref q_t_chance])), (q_t_house, .inr (1, [.int t_house_there, .int t_house_sat, .int t_house_hour, .ref q_t_house_ills, .ref q_t_house_roomOf, .ref q_t_house_effects, .ref q_t_house_badFor, .ref q_t_house_likes, .ref q_t_house_sights])), (q_t_placing, .inr (3, [.int t_placing_hours, .int t_placing_number, .ref q_t_placing_needs, .ref q_t_placing_apartFrom, .ref q_t_placing_togetherWith])), (q_t_placing_apartFrom, .inl (G 0, 6, .inl t_placing_apartFrom)), (q_t_placing_togetherWith, .inl (G 0, 6, .inl t_placing_togetherWith))] [(q_t, .inr (7, [.ref q_t_house, .ref q_t_images, .ref q_t_pad, .ref q_t_trial, .ref q_t_placing, .ref q_t_seating, .ref q_t_chance])), (q_t_house, .inr (1, [.int t_house_there, .int t_house_sat, .int t_house_hour, .ref q_t_house_ills, .ref q_t_house_roomOf, .ref q_t_house_effects, .ref q_t_house_badFor, .ref q_t_house_likes, .ref q_t_house_sights])), (q_t_placing, .inr (3, [.int t_placing_hours, .int t_placing_number, .ref q_t_placing_needs, .ref q_t_placing_apartFrom, .ref q_t_placing_togetherWith])), (q_t_placing_apartFrom, .inl (G 0, 6, .inl o_t_placing_apartFrom)), (q_t_placing_togetherWith, .inl (G 0, 6, .inl o_t_placing_togetherWith))] (some (.int r)) := by
  refine rW_of (by decide) (Nat.le_of_ble_eq_true rfl) ?_
  intro p e s m args below meth c Q A hx hb hml hown hts hK hn hA RET H locs hP hD hS ls hl
  have RT : ∀ (a0_ : Int32) (a1_ : Nat → Int32) (a2_ : Nat → Int32), some (a0_, a1_, a2_) = some (r, o_t_placing_apartFrom, o_t_placing_togetherWith) → ∀ (pc : Nat) (ls : Array Slot) (ins : Instr) (H : Heap) (locs : List Loc), decode cX7_ways pc = .ok (ins, 1) → rk (some .int) (some (.int a0_)) ins → va_P D vwCl [(q_t, .inr (7, [.ref q_t_house, .ref q_t_images, .ref q_t_pad, .ref q_t_trial, .ref q_t_placing, .ref q_t_seating, .ref q_t_chance])), (q_t_house, .inr (1, [.int t_house_there, .int t_house_sat, .int t_house_hour, .ref q_t_house_ills, .ref q_t_house_roomOf, .ref q_t_house_effects, .ref q_t_house_badFor, .ref q_t_house_likes, .ref q_t_house_sights])), (q_t_placing, .inr (3, [.int t_placing_hours, .int t_placing_number, .ref q_t_placing_needs, .ref q_t_placing_apartFrom, .ref q_t_placing_togetherWith])), (q_t_placing_apartFrom, .inl (G 0, 6, .inl a1_)), (q_t_placing_togetherWith, .inl (G 0, 6, .inl a2_))] H → va_D A [(q_t, .inr (7, [.ref q_t_house, .ref q_t_images, .ref q_t_pad, .ref q_t_trial, .ref q_t_placing, .ref q_t_seating, .ref q_t_chance])), (q_t_house, .inr (1, [.int t_house_there, .int t_house_sat, .int t_house_hour, .ref q_t_house_ills, .ref q_t_house_roomOf, .ref q_t_house_effects, .ref q_t_house_badFor, .ref q_t_house_likes, .ref q_t_house_sights])), (q_t_placing, .inr (3, [.int t_placing_hours, .int t_placing_number, .ref q_t_placing_needs, .ref q_t_placing_apartFrom, .ref q_t_placing_togetherWith])), (q_t_placing_apartFrom, .inl (G 0, 6, .inl a1_)), (q_t_placing_togetherWith, .inl (G 0, 6, .inl a2_))] → va_S A s.heap H locs → W p l e (kR 12 614) s m args below meth c H locs 0 0 Q (F0 m pc ls [.int a0_]) := by
    intro a0_ a1_ a2_ hy; obtain ⟨rfl, rfl, rfl⟩ := sm3 hy
    exact RET
  have hown : s.vm.findClass RX7 = some m.cls := hown
  have hl : lv_has ls 4 [(0, .ref q_t), (1, .int v1), (2, .int v2), (3, .int v3)] := hl
  clear RET
  rw [fX7_ways] at hf
  refine lv_iload_n hx hb dX7_ways_0 rfl (lv_at hl 1 rfl) ?_
  refine lv_ldc (v := (32768 : Int32)) hx hb hown (hts _ lcX7_155) dX7_ways_1 ?_
  obtain ⟨r1, h2, hf⟩ := bd1E hf
  refine kO_stat hx hb hml hown hts hK hn hP (kX7_isAmong l D G v1 (32768 : Int32) h2) csX7_55 ⟨Nat.le_of_ble_eq_true rfl, Nat.le_of_ble_eq_true rfl⟩ [] rfl rfl hl.1 rfl (Nat.le_of_ble_eq_true rfl) ⟨Nat.zero_le _, Nat.zero_le _⟩ dX7_ways_3 ?_
  refine lv_if_eq (tgt := 27) hx hb dX7_ways_6 (by decide) (fun c3 => ?_) (fun c3 => ?_)
  · have hf := ifp c3 hf
    refine lv_bipush (v := (-2 : Int32)) hx hb dX7_ways_27 (by decide) ?_
    exact RT _ _ _ hf _ _ _ H locs dX7_ways_29 (rkI _) hP hD hS
  · have hf := ifn c3 hf
    refine lv_iload_n hx hb dX7_ways_9 rfl (lv_at hl 2 rfl) ?_
    refine lv_ldc (v := (32768 : Int32)) hx hb hown (hts _ lcX7_155) dX7_ways_10 ?_
    obtain ⟨r4, h5, hf⟩ := bd1E hf
    refine kO_stat hx hb hml hown hts hK hn hP (kX7_isAmong l D G v2 (32768 : Int32) h5) csX7_55 ⟨Nat.le_of_ble_eq_true rfl, Nat.le_of_ble_eq_true rfl⟩ [] rfl rfl hl.1 rfl (Nat.le_of_ble_eq_true rfl) ⟨Nat.zero_le _, Nat.zero_le _⟩ dX7_ways_12 ?_
    refine lv_if_eq (tgt := 27) hx hb dX7_ways_15 (by decide) (fun c6 => ?_) (fun c6 => ?_)
    · have hf := ifp c6 hf
      refine lv_bipush (v := (-2 : Int32)) hx hb dX7_ways_27 (by decide) ?_
      exact RT _ _ _ hf _ _ _ H locs dX7_ways_29 (rkI _) hP hD hS
    · have hf := ifn c6 hf
      refine lv_iload_n hx hb dX7_ways_18 rfl (lv_at hl 3 rfl) ?_
      refine lv_iconst (v := (1 : Int32)) hx hb dX7_ways_19 (by decide) ?_
      refine lv_iconst (v := (4 : Int32)) hx hb dX7_ways_20 (by decide) ?_
      obtain ⟨r7, h8, hf⟩ := bd1E hf
      refine kO_stat hx hb hml hown hts hK hn hP (kX7_isBetween l D G v3 (1 : Int32) (4 : Int32) h8) csX7_59 ⟨Nat.le_of_ble_eq_true rfl, Nat.le_of_ble_eq_true rfl⟩ [] rfl rfl hl.1 rfl (Nat.le_of_ble_eq_true rfl) ⟨Nat.zero_le _, Nat.zero_le _⟩ dX7_ways_21 ?_
      refine lv_if_ne (tgt := 30) hx hb dX7_ways_24 (by decide) (fun c9 => ?_) (fun c9 => ?_)
      · have hf := ifn c9 hf
        refine lv_aload_n hx hb dX7_ways_30 rfl (lv_at hl 0 rfl) ?_
        refine va_get (D := D) (ci := 7) (v := .ref q_t_placing) (C := RX7) (T := TX7) (N := 7) hx hb hts inX7 hown hK hP 0 rfl rfl 4 (by decide) (hts _ lfX7_37) (fun _ h9 => h9) rfl dX7_ways_31 ?_
        refine lv_aload_n hx hb dX7_ways_34 rfl (lv_at hl 0 rfl) ?_
        refine va_get (D := D) (ci := 7) (v := .ref q_t_house) (C := RX7) (T := TX7) (N := 7) hx hb hts inX7 hown hK hP 0 rfl rfl 0 (by decide) (hts _ lfX7_12) (fun _ h9 => h9) rfl dX7_ways_35 ?_
        refine va_get (D := D) (ci := 1) (v := .int t_house_there) (C := RX1) (T := TX1) (N := 9) hx hb hts inX1 hown hK hP 1 rfl rfl 0 (by decide) (hts _ lfX7_67) (fun _ h9 => h9) rfl dX7_ways_38 ?_
        refine lv_iload_n hx hb dX7_ways_41 rfl (lv_at hl 1 rfl) ?_
        refine lv_iload_n hx hb dX7_ways_42 rfl (lv_at hl 2 rfl) ?_
        refine lv_iload_n hx hb dX7_ways_43 rfl (lv_at hl 3 rfl) ?_
        obtain ⟨r10, o11, o12, h13, hf⟩ := bd3E hf
        refine kW_virt hx hb hml hown hts hK hn hA hP hD hS (kX3_countWays l D G fu q_t_placing q_t_placing_needs q_t_placing_apartFrom q_t_placing_togetherWith t_placing_hours t_placing_number t_placing_apartFrom t_placing_togetherWith t_house_there v1 v2 v3 h13) cvX7_156 ⟨Nat.le_of_ble_eq_true rfl, Nat.le_of_ble_eq_true rfl⟩ [2, 3, 4] rfl rfl [false, false, true, true, true] rfl (w3 := [(q_t_placing, .inr (3, [.int t_placing_hours, .int t_placing_number, .ref q_t_placing_needs, .ref q_t_placing_apartFrom, .ref q_t_placing_togetherWith])), (q_t_placing_apartFrom, .inl (G 0, 6, .inl o11)), (q_t_placing_togetherWith, .inl (G 0, 6, .inl o12))]) [0, 1, 2] rfl rfl 2 rfl rfl rfl hl.1 rfl (Nat.le_of_ble_eq_true rfl) ⟨Nat.zero_le _, Nat.zero_le _⟩ dX7_ways_44 (fun H locs hP hD hS => ?_)
        have hP : va_P D vwCl [(q_t, .inr (7, [.ref q_t_house, .ref q_t_images, .ref q_t_pad, .ref q_t_trial, .ref q_t_placing, .ref q_t_seating, .ref q_t_chance])), (q_t_house, .inr (1, [.int t_house_there, .int t_house_sat, .int t_house_hour, .ref q_t_house_ills, .ref q_t_house_roomOf, .ref q_t_house_effects, .ref q_t_house_badFor, .ref q_t_house_likes, .ref q_t_house_sights])), (q_t_placing, .inr (3, [.int t_placing_hours, .int t_placing_number, .ref q_t_placing_needs, .ref q_t_placing_apartFrom, .ref q_t_placing_togetherWith])), (q_t_placing_apartFrom, .inl (G 0, 6, .inl o11)), (q_t_placing_togetherWith, .inl (G 0, 6, .inl o12))] H := hP
        have hD : va_D A [(q_t, .inr (7, [.ref q_t_house, .ref q_t_images, .ref q_t_pad, .ref q_t_trial, .ref q_t_placing, .ref q_t_seating, .ref q_t_chance])), (q_t_house, .inr (1, [.int t_house_there, .int t_house_sat, .int t_house_hour, .ref q_t_house_ills, .ref q_t_house_roomOf, .ref q_t_house_effects, .ref q_t_house_badFor, .ref q_t_house_likes, .ref q_t_house_sights])), (q_t_placing, .inr (3, [.int t_placing_hours, .int t_placing_number, .ref q_t_placing_needs, .ref q_t_placing_apartFrom, .ref q_t_placing_togetherWith])), (q_t_placing_apartFrom, .inl (G 0, 6, .inl o11)), (q_t_placing_togetherWith, .inl (G 0, 6, .inl o12))] := hD
        exact RT _ _ _ hf _ _ _ H locs dX7_ways_47 (rkI _) hP hD hS
      · have hf := ifp c9 hf
        refine lv_bipush (v := (-2 : Int32)) hx hb dX7_ways_27 (by decide) ?_
        exact RT _ _ _ hf _ _ _ H locs dX7_ways_29 (rkI _) hP hD hS
set_option maxHeartbeats 4000000 in
set_option maxRecDepth 100000 in
theorem kX7_week (l : Launch) (D : va_G) (G : Nat → ClassId) (fu : Nat) (q_t q_t_house q_t_images q_t_pad q_t_trial q_t_placing q_t_seating q_t_chance q_t_house_ills q_t_house_roomOf q_t_house_effects q_t_house_badFor q_t_house_likes q_t_house_sights q_t_house_sights_before q_t_house_sights_hours q_t_house_sights_after q_t_trial_house q_t_trial_house_ills q_t_trial_house_roomOf q_t_trial_house_effects q_t_trial_house_badFor q_t_trial_house_likes q_t_trial_house_sights q_t_trial_house_sights_before q_t_trial_house_sights_hours q_t_trial_house_sights_after : Nat) (t_house_there : Int32) (t_house_sat : Int32) (t_house_hour : Int32) (t_house_ills : Nat → Int32) (t_house_roomOf : Nat → Int32) (t_house_effects : Nat → Int32) (t_house_badFor : Nat → Int32) (t_house_likes : Nat → Int32) (t_house_sights_count : Int32) (t_house_sights_before : Nat → Int32) (t_house_sights_hours : Nat → Int32) (t_house_sights_after : Nat → Int32) (t_trial_acts : Int32) (t_trial_why : Int32) (t_trial_hours : Int32) (t_trial_worseHour : Int32) (t_trial_worsePiece : Int32) (t_trial_house_there : Int32) (t_trial_house_sat : Int32) (t_trial_house_hour : Int32) (t_trial_house_ills : Nat → Int32) (t_trial_house_roomOf : Nat → Int32) (t_trial_house_effects : Nat → Int32) (t_trial_house_badFor : Nat → Int32) (t_trial_house_likes : Nat → Int32) (t_trial_house_sights_count : Int32) (t_trial_house_sights_before : Nat → Int32) (t_trial_house_sights_hours : Nat → Int32) (t_trial_house_sights_after : Nat → Int32) (v1 : Int32) (v2 : Int32) (v3 : Int32) {r : Int32} {o_t_trial_acts : Int32} {o_t_trial_why : Int32} {o_t_trial_hours : Int32} {o_t_trial_worseHour : Int32} {o_t_trial_worsePiece : Int32} {o_t_trial_house_there : Int32} {o_t_trial_house_sat : Int32} {o_t_trial_house_hour : Int32} {o_t_trial_house_ills : Nat → Int32} {o_t_trial_house_roomOf : Nat → Int32} {o_t_trial_house_effects : Nat → Int32} {o_t_trial_house_badFor : Nat → Int32} {o_t_trial_house_likes : Nat → Int32} {o_t_trial_house_sights_count : Int32} {o_t_trial_house_sights_before : Nat → Int32} {o_t_trial_house_sights_hours : Nat → Int32} {o_t_trial_house_sights_after : Nat → Int32} (hf : fX7_week fu t_house_there t_house_sat t_house_hour t_house_ills t_house_roomOf t_house_effects t_house_badFor t_house_likes t_house_sights_count t_house_sights_before t_house_sights_hours t_house_sights_after t_trial_acts t_trial_why t_trial_hours t_trial_worseHour t_trial_worsePiece t_trial_house_there t_trial_house_sat t_trial_house_hour t_trial_house_ills t_trial_house_roomOf t_trial_house_effects t_trial_house_badFor t_trial_house_likes t_trial_house_sights_count t_trial_house_sights_before t_trial_house_sights_hours t_trial_house_sights_after v1 v2 v3 = some (r, o_t_trial_acts, o_t_trial_why, o_t_trial_hours, o_t_trial_worseHour, o_t_trial_worsePiece, o_t_trial_house_there, o_t_trial_house_sat, o_t_trial_house_hour, o_t_trial_house_ills, o_t_trial_house_roomOf, o_t_trial_house_effects, o_t_trial_house_badFor, o_t_trial_house_likes, o_t_trial_house_sights_count, o_t_trial_house_sights_before, o_t_trial_house_sights_hours, o_t_trial_house_sights_after)) : rW l D G yX7_week cX7_week 4 (some .int) 6 208 [.ref q_t, .int v1, .int v2, .int v3] [(q_t, .inr (7, [.ref q_t_house, .ref q_t_images, .ref q_t_pad, .ref q_t_trial, .ref q_t_placing, .ref q_t_seating, .ref q_t_chance])), (q_t_house, .inr (1, [.int t_house_there, .int t_house_sat, .int t_house_hour, .ref q_t_house_ills, .ref q_t_house_roomOf, .ref q_t_house_effects, .ref q_t_house_badFor, .ref q_t_house_likes, .ref q_t_house_sights])), (q_t_house_ills, .inl (G 0, 18, .inl t_house_ills)), (q_t_house_roomOf, .inl (G 0, 6, .inl t_house_roomOf)), (q_t_house_effects, .inl (G 0, 12, .inl t_house_effects)), (q_t_house_badFor, .inl (G 0, 36, .inl t_house_badFor)), (q_t_house_likes, .inl (G 0, 6, .inl t_house_likes)), (q_t_house_sights, .inr (5, [.int t_house_sights_count, .ref q_t_house_sights_before, .ref q_t_house_sights_hours, .ref q_t_house_sights_after])), (q_t_house_sights_before, .inl (G 0, 8, .inl t_house_sights_before)), (q_t_house_sights_hours, .inl (G 0, 8, .inl t_house_sights_hours)), (q_t_house_sights_after, .inl (G 0, 8, .inl t_house_sights_after)), (q_t_trial, .inr (6, [.ref q_t_trial_house, .int t_trial_acts, .int t_trial_why, .int t_trial_hours, .int t_trial_worseHour, .int t_trial_worsePiece])), (q_t_trial_house, .inr (1, [.int t_trial_house_there, .int t_trial_house_sat, .int t_trial_house_hour, .ref q_t_trial_house_ills, .ref q_t_trial_house_roomOf, .ref q_t_trial_house_effects, .ref q_t_trial_house_badFor, .ref q_t_trial_house_likes, .ref q_t_trial_house_sights])), (q_t_trial_house_ills, .inl (G 0, 18, .inl t_trial_house_ills)), (q_t_trial_house_roomOf, .inl (G 0, 6, .inl t_trial_house_roomOf)), (q_t_trial_house_effects, .inl (G 0, 12, .inl t_trial_house_effects)), (q_t_trial_house_badFor, .inl (G 0, 36, .inl t_trial_house_badFor)), (q_t_trial_house_likes, .inl (G 0, 6, .inl t_trial_house_likes)), (q_t_trial_house_sights, .inr (5, [.int t_trial_house_sights_count, .ref q_t_trial_house_sights_before, .ref q_t_trial_house_sights_hours, .ref q_t_trial_house_sights_after])), (q_t_trial_house_sights_before, .inl (G 0, 8, .inl t_trial_house_sights_before)), (q_t_trial_house_sights_hours, .inl (G 0, 8, .inl t_trial_house_sights_hours)), (q_t_trial_house_sights_after, .inl (G 0, 8, .inl t_trial_house_sights_after))] [(q_t, .inr (7, [.ref q_t_house, .ref q_t_images, .ref q_t_pad, .ref q_t_trial, .ref q_t_placing, .ref q_t_seating, .ref q_t_chance])), (q_t_house, .inr (1, [.int t_house_there, .int t_house_sat, .int t_house_hour, .ref q_t_house_ills, .ref q_t_house_roomOf, .ref q_t_house_effects, .ref q_t_house_badFor, .ref q_t_house_likes, .ref q_t_house_sights])), (q_t_house_ills, .inl (G 0, 18, .inl t_house_ills)), (q_t_house_roomOf, .inl (G 0, 6, .inl t_house_roomOf)), (q_t_house_effects, .inl (G 0, 12, .inl t_house_effects)), (q_t_house_badFor, .inl (G 0, 36, .inl t_house_badFor)), (q_t_house_likes, .inl (G 0, 6, .inl t_house_likes)), (q_t_house_sights, .inr (5, [.int t_house_sights_count, .ref q_t_house_sights_before, .ref q_t_house_sights_hours, .ref q_t_house_sights_after])), (q_t_house_sights_before, .inl (G 0, 8, .inl t_house_sights_before)), (q_t_house_sights_hours, .inl (G 0, 8, .inl t_house_sights_hours)), (q_t_house_sights_after, .inl (G 0, 8, .inl t_house_sights_after)), (q_t_trial, .inr (6, [.ref q_t_trial_house, .int o_t_trial_acts, .int o_t_trial_why, .int o_t_trial_hours, .int o_t_trial_worseHour, .int o_t_trial_worsePiece])), (q_t_trial_house, .inr (1, [.int o_t_trial_house_there, .int o_t_trial_house_sat, .int o_t_trial_house_hour, .ref q_t_trial_house_ills, .ref q_t_trial_house_roomOf, .ref q_t_trial_house_effects, .ref q_t_trial_house_badFor, .ref q_t_trial_house_likes, .ref q_t_trial_house_sights])), (q_t_trial_house_ills, .inl (G 0, 18, .inl o_t_trial_house_ills)), (q_t_trial_house_roomOf, .inl (G 0, 6, .inl o_t_trial_house_roomOf)), (q_t_trial_house_effects, .inl (G 0, 12, .inl o_t_trial_house_effects)), (q_t_trial_house_badFor, .inl (G 0, 36, .inl o_t_trial_house_badFor)), (q_t_trial_house_likes, .inl (G 0, 6, .inl o_t_trial_house_likes)), (q_t_trial_house_sights, .inr (5, [.int o_t_trial_house_sights_count, .ref q_t_trial_house_sights_before, .ref q_t_trial_house_sights_hours, .ref q_t_trial_house_sights_after])), (q_t_trial_house_sights_before, .inl (G 0, 8, .inl o_t_trial_house_sights_before)), (q_t_trial_house_sights_hours, .inl (G 0, 8, .inl o_t_trial_house_sights_hours)), (q_t_trial_house_sights_after, .inl (G 0, 8, .inl o_t_trial_house_sights_after))] (some (.int r)) := by
  refine rW_of (by decide) (Nat.le_of_ble_eq_true rfl) ?_
  intro p e s m args below meth c Q A hx hb hml hown hts hK hn hA RET H locs hP hD hS ls hl
  have RT : ∀ (a0_ : Int32) (a1_ : Int32) (a2_ : Int32) (a3_ : Int32) (a4_ : Int32) (a5_ : Int32) (a6_ : Int32) (a7_ : Int32) (a8_ : Int32) (a9_ : Nat → Int32) (a10_ : Nat → Int32) (a11_ : Nat → Int32) (a12_ : Nat → Int32) (a13_ : Nat → Int32) (a14_ : Int32) (a15_ : Nat → Int32) (a16_ : Nat → Int32) (a17_ : Nat → Int32), some (a0_, a1_, a2_, a3_, a4_, a5_, a6_, a7_, a8_, a9_, a10_, a11_, a12_, a13_, a14_, a15_, a16_, a17_) = some (r, o_t_trial_acts, o_t_trial_why, o_t_trial_hours, o_t_trial_worseHour, o_t_trial_worsePiece, o_t_trial_house_there, o_t_trial_house_sat, o_t_trial_house_hour, o_t_trial_house_ills, o_t_trial_house_roomOf, o_t_trial_house_effects, o_t_trial_house_badFor, o_t_trial_house_likes, o_t_trial_house_sights_count, o_t_trial_house_sights_before, o_t_trial_house_sights_hours, o_t_trial_house_sights_after) → ∀ (pc : Nat) (ls : Array Slot) (ins : Instr) (H : Heap) (locs : List Loc), decode cX7_week pc = .ok (ins, 1) → rk (some .int) (some (.int a0_)) ins → va_P D vwCl [(q_t, .inr (7, [.ref q_t_house, .ref q_t_images, .ref q_t_pad, .ref q_t_trial, .ref q_t_placing, .ref q_t_seating, .ref q_t_chance])), (q_t_house, .inr (1, [.int t_house_there, .int t_house_sat, .int t_house_hour, .ref q_t_house_ills, .ref q_t_house_roomOf, .ref q_t_house_effects, .ref q_t_house_badFor, .ref q_t_house_likes, .ref q_t_house_sights])), (q_t_house_ills, .inl (G 0, 18, .inl t_house_ills)), (q_t_house_roomOf, .inl (G 0, 6, .inl t_house_roomOf)), (q_t_house_effects, .inl (G 0, 12, .inl t_house_effects)), (q_t_house_badFor, .inl (G 0, 36, .inl t_house_badFor)), (q_t_house_likes, .inl (G 0, 6, .inl t_house_likes)), (q_t_house_sights, .inr (5, [.int t_house_sights_count, .ref q_t_house_sights_before, .ref q_t_house_sights_hours, .ref q_t_house_sights_after])), (q_t_house_sights_before, .inl (G 0, 8, .inl t_house_sights_before)), (q_t_house_sights_hours, .inl (G 0, 8, .inl t_house_sights_hours)), (q_t_house_sights_after, .inl (G 0, 8, .inl t_house_sights_after)), (q_t_trial, .inr (6, [.ref q_t_trial_house, .int a1_, .int a2_, .int a3_, .int a4_, .int a5_])), (q_t_trial_house, .inr (1, [.int a6_, .int a7_, .int a8_, .ref q_t_trial_house_ills, .ref q_t_trial_house_roomOf, .ref q_t_trial_house_effects, .ref q_t_trial_house_badFor, .ref q_t_trial_house_likes, .ref q_t_trial_house_sights])), (q_t_trial_house_ills, .inl (G 0, 18, .inl a9_)), (q_t_trial_house_roomOf, .inl (G 0, 6, .inl a10_)), (q_t_trial_house_effects, .inl (G 0, 12, .inl a11_)), (q_t_trial_house_badFor, .inl (G 0, 36, .inl a12_)), (q_t_trial_house_likes, .inl (G 0, 6, .inl a13_)), (q_t_trial_house_sights, .inr (5, [.int a14_, .ref q_t_trial_house_sights_before, .ref q_t_trial_house_sights_hours, .ref q_t_trial_house_sights_after])), (q_t_trial_house_sights_before, .inl (G 0, 8, .inl a15_)), (q_t_trial_house_sights_hours, .inl (G 0, 8, .inl a16_)), (q_t_trial_house_sights_after, .inl (G 0, 8, .inl a17_))] H → va_D A [(q_t, .inr (7, [.ref q_t_house, .ref q_t_images, .ref q_t_pad, .ref q_t_trial, .ref q_t_placing, .ref q_t_seating, .ref q_t_chance])), (q_t_house, .inr (1, [.int t_house_there, .int t_house_sat, .int t_house_hour, .ref q_t_house_ills, .ref q_t_house_roomOf, .ref q_t_house_effects, .ref q_t_house_badFor, .ref q_t_house_likes, .ref q_t_house_sights])), (q_t_house_ills, .inl (G 0, 18, .inl t_house_ills)), (q_t_house_roomOf, .inl (G 0, 6, .inl t_house_roomOf)), (q_t_house_effects, .inl (G 0, 12, .inl t_house_effects)), (q_t_house_badFor, .inl (G 0, 36, .inl t_house_badFor)), (q_t_house_likes, .inl (G 0, 6, .inl t_house_likes)), (q_t_house_sights, .inr (5, [.int t_house_sights_count, .ref q_t_house_sights_before, .ref q_t_house_sights_hours, .ref q_t_house_sights_after])), (q_t_house_sights_before, .inl (G 0, 8, .inl t_house_sights_before)), (q_t_house_sights_hours, .inl (G 0, 8, .inl t_house_sights_hours)), (q_t_house_sights_after, .inl (G 0, 8, .inl t_house_sights_after)), (q_t_trial, .inr (6, [.ref q_t_trial_house, .int a1_, .int a2_, .int a3_, .int a4_, .int a5_])), (q_t_trial_house, .inr (1, [.int a6_, .int a7_, .int a8_, .ref q_t_trial_house_ills, .ref q_t_trial_house_roomOf, .ref q_t_trial_house_effects, .ref q_t_trial_house_badFor, .ref q_t_trial_house_likes, .ref q_t_trial_house_sights])), (q_t_trial_house_ills, .inl (G 0, 18, .inl a9_)), (q_t_trial_house_roomOf, .inl (G 0, 6, .inl a10_)), (q_t_trial_house_effects, .inl (G 0, 12, .inl a11_)), (q_t_trial_house_badFor, .inl (G 0, 36, .inl a12_)), (q_t_trial_house_likes, .inl (G 0, 6, .inl a13_)), (q_t_trial_house_sights, .inr (5, [.int a14_, .ref q_t_trial_house_sights_before, .ref q_t_trial_house_sights_hours, .ref q_t_trial_house_sights_after])), (q_t_trial_house_sights_before, .inl (G 0, 8, .inl a15_)), (q_t_trial_house_sights_hours, .inl (G 0, 8, .inl a16_)), (q_t_trial_house_sights_after, .inl (G 0, 8, .inl a17_))] → va_S A s.heap H locs → W p l e (kR 6 208) s m args below meth c H locs 0 0 Q (F0 m pc ls [.int a0_]) := by
    intro a0_ a1_ a2_ a3_ a4_ a5_ a6_ a7_ a8_ a9_ a10_ a11_ a12_ a13_ a14_ a15_ a16_ a17_ hy; obtain ⟨rfl, rfl, rfl, rfl, rfl, rfl, rfl, rfl, rfl, rfl, rfl, rfl, rfl, rfl, rfl, rfl, rfl, rfl⟩ := sm18 hy
    exact RET
  have hown : s.vm.findClass RX7 = some m.cls := hown
  have hl : lv_has ls 4 [(0, .ref q_t), (1, .int v1), (2, .int v2), (3, .int v3)] := hl
  clear RET
  rw [fX7_week] at hf
  refine lv_iload_n hx hb dX7_week_0 rfl (lv_at hl 1 rfl) ?_
  refine lv_iconst (v := (0 : Int32)) hx hb dX7_week_1 (by decide) ?_
  refine lv_sipush (v := (9999 : Int32)) hx hb dX7_week_2 (by decide) ?_
  obtain ⟨r1, h2, hf⟩ := bd1E hf
  refine kO_stat hx hb hml hown hts hK hn hP (kX7_isBetween l D G v1 (0 : Int32) (9999 : Int32) h2) csX7_59 ⟨Nat.le_of_ble_eq_true rfl, Nat.le_of_ble_eq_true rfl⟩ [] rfl rfl hl.1 rfl (Nat.le_of_ble_eq_true rfl) ⟨Nat.zero_le _, Nat.zero_le _⟩ dX7_week_5 ?_
  refine lv_if_eq (tgt := 29) hx hb dX7_week_8 (by decide) (fun c3 => ?_) (fun c3 => ?_)
  · have hf := ifp c3 hf
    refine lv_bipush (v := (-2 : Int32)) hx hb dX7_week_29 (by decide) ?_
    exact RT _ _ _ _ _ _ _ _ _ _ _ _ _ _ _ _ _ _ hf _ _ _ H locs dX7_week_31 (rkI _) hP hD hS
  · have hf := ifn c3 hf
    refine lv_iload_n hx hb dX7_week_11 rfl (lv_at hl 2 rfl) ?_
    refine lv_iconst (v := (1 : Int32)) hx hb dX7_week_12 (by decide) ?_
    refine lv_bipush (v := (99 : Int32)) hx hb dX7_week_13 (by decide) ?_
    obtain ⟨r4, h5, hf⟩ := bd1E hf
    refine kO_stat hx hb hml hown hts hK hn hP (kX7_isBetween l D G v2 (1 : Int32) (99 : Int32) h5) csX7_59 ⟨Nat.le_of_ble_eq_true rfl, Nat.le_of_ble_eq_true rfl⟩ [] rfl rfl hl.1 rfl (Nat.le_of_ble_eq_true rfl) ⟨Nat.zero_le _, Nat.zero_le _⟩ dX7_week_15 ?_
    refine lv_if_eq (tgt := 29) hx hb dX7_week_18 (by decide) (fun c6 => ?_) (fun c6 => ?_)
    · have hf := ifp c6 hf
      refine lv_bipush (v := (-2 : Int32)) hx hb dX7_week_29 (by decide) ?_
      exact RT _ _ _ _ _ _ _ _ _ _ _ _ _ _ _ _ _ _ hf _ _ _ H locs dX7_week_31 (rkI _) hP hD hS
    · have hf := ifn c6 hf
      refine lv_iload_n hx hb dX7_week_21 rfl (lv_at hl 3 rfl) ?_
      refine lv_iconst (v := (3 : Int32)) hx hb dX7_week_22 (by decide) ?_
      obtain ⟨r7, h8, hf⟩ := bd1E hf
      refine kO_stat hx hb hml hown hts hK hn hP (kX7_isAmong l D G v3 (3 : Int32) h8) csX7_55 ⟨Nat.le_of_ble_eq_true rfl, Nat.le_of_ble_eq_true rfl⟩ [] rfl rfl hl.1 rfl (Nat.le_of_ble_eq_true rfl) ⟨Nat.zero_le _, Nat.zero_le _⟩ dX7_week_23 ?_
      refine lv_if_ne (tgt := 32) hx hb dX7_week_26 (by decide) (fun c9 => ?_) (fun c9 => ?_)
      · have hf := ifn c9 hf
        refine lv_aload_n hx hb dX7_week_32 rfl (lv_at hl 0 rfl) ?_
        refine va_get (D := D) (ci := 7) (v := .ref q_t_trial) (C := RX7) (T := TX7) (N := 7) hx hb hts inX7 hown hK hP 0 rfl rfl 3 (by decide) (hts _ lfX7_30) (fun _ h9 => h9) rfl dX7_week_33 ?_
        refine lv_aload_n hx hb dX7_week_36 rfl (lv_at hl 0 rfl) ?_
        refine va_get (D := D) (ci := 7) (v := .ref q_t_house) (C := RX7) (T := TX7) (N := 7) hx hb hts inX7 hown hK hP 0 rfl rfl 0 (by decide) (hts _ lfX7_12) (fun _ h9 => h9) rfl dX7_week_37 ?_
        refine lv_iload_n hx hb dX7_week_40 rfl (lv_at hl 1 rfl) ?_
        refine lv_iload_n hx hb dX7_week_41 rfl (lv_at hl 2 rfl) ?_
        obtain ⟨o10, o11, o12, o13, o14, o15, o16, o17, o18, o19, o20, o21, o22, o23, o24, o25, o26, h27, hf⟩ := bd17E hf
        refine kW_virt0 hx hb hml hown hts hK hn hA hP hD hS (kX6_drift l D G fu q_t_trial q_t_house q_t_trial_house q_t_trial_house_ills q_t_trial_house_roomOf q_t_trial_house_effects q_t_trial_house_badFor q_t_trial_house_likes q_t_trial_house_sights q_t_trial_house_sights_before q_t_trial_house_sights_hours q_t_trial_house_sights_after q_t_house_ills q_t_house_roomOf q_t_house_effects q_t_house_badFor q_t_house_likes q_t_house_sights q_t_house_sights_before q_t_house_sights_hours q_t_house_sights_after t_trial_acts t_trial_why t_trial_hours t_trial_worseHour t_trial_worsePiece t_trial_house_there t_trial_house_sat t_trial_house_hour t_trial_house_ills t_trial_house_roomOf t_trial_house_effects t_trial_house_badFor t_trial_house_likes t_trial_house_sights_count t_trial_house_sights_before t_trial_house_sights_hours t_trial_house_sights_after t_house_there t_house_sat t_house_hour t_house_ills t_house_roomOf t_house_effects t_house_badFor t_house_likes t_house_sights_count t_house_sights_before t_house_sights_hours t_house_sights_after v1 v2 h27) cvX7_227 ⟨Nat.le_of_ble_eq_true rfl, Nat.le_of_ble_eq_true rfl⟩ [11, 12, 13, 14, 15, 16, 17, 18, 19, 20, 21, 1, 2, 3, 4, 5, 6, 7, 8, 9, 10] rfl rfl [false, true, true, true, true, true, true, true, true, true, true, true, true, true, true, true, true, true, true, true, true, true] rfl (w3 := [(q_t_house, .inr (1, [.int t_house_there, .int t_house_sat, .int t_house_hour, .ref q_t_house_ills, .ref q_t_house_roomOf, .ref q_t_house_effects, .ref q_t_house_badFor, .ref q_t_house_likes, .ref q_t_house_sights])), (q_t_house_ills, .inl (G 0, 18, .inl t_house_ills)), (q_t_house_roomOf, .inl (G 0, 6, .inl t_house_roomOf)), (q_t_house_effects, .inl (G 0, 12, .inl t_house_effects)), (q_t_house_badFor, .inl (G 0, 36, .inl t_house_badFor)), (q_t_house_likes, .inl (G 0, 6, .inl t_house_likes)), (q_t_house_sights, .inr (5, [.int t_house_sights_count, .ref q_t_house_sights_before, .ref q_t_house_sights_hours, .ref q_t_house_sights_after])), (q_t_house_sights_before, .inl (G 0, 8, .inl t_house_sights_before)), (q_t_house_sights_hours, .inl (G 0, 8, .inl t_house_sights_hours)), (q_t_house_sights_after, .inl (G 0, 8, .inl t_house_sights_after)), (q_t_trial, .inr (6, [.ref q_t_trial_house, .int o10, .int o11, .int o12, .int o13, .int o14])), (q_t_trial_house, .inr (1, [.int o15, .int o16, .int o17, .ref q_t_trial_house_ills, .ref q_t_trial_house_roomOf, .ref q_t_trial_house_effects, .ref q_t_trial_house_badFor, .ref q_t_trial_house_likes, .ref q_t_trial_house_sights])), (q_t_trial_house_ills, .inl (G 0, 18, .inl o18)), (q_t_trial_house_roomOf, .inl (G 0, 6, .inl o19)), (q_t_trial_house_effects, .inl (G 0, 12, .inl o20)), (q_t_trial_house_badFor, .inl (G 0, 36, .inl o21)), (q_t_trial_house_likes, .inl (G 0, 6, .inl o22)), (q_t_trial_house_sights, .inr (5, [.int o23, .ref q_t_trial_house_sights_before, .ref q_t_trial_house_sights_hours, .ref q_t_trial_house_sights_after])), (q_t_trial_house_sights_before, .inl (G 0, 8, .inl o24)), (q_t_trial_house_sights_hours, .inl (G 0, 8, .inl o25)), (q_t_trial_house_sights_after, .inl (G 0, 8, .inl o26))]) [11, 12, 13, 14, 15, 16, 17, 18, 19, 20, 0, 1, 2, 3, 4, 5, 6, 7, 8, 9, 10] rfl rfl 11 rfl rfl rfl hl.1 rfl (Nat.le_of_ble_eq_true rfl) ⟨Nat.zero_le _, Nat.zero_le _⟩ dX7_week_42 (fun H locs hP hD hS => ?_)
        have hP : va_P D vwCl [(q_t, .inr (7, [.ref q_t_house, .ref q_t_images, .ref q_t_pad, .ref q_t_trial, .ref q_t_placing, .ref q_t_seating, .ref q_t_chance])), (q_t_house, .inr (1, [.int t_house_there, .int t_house_sat, .int t_house_hour, .ref q_t_house_ills, .ref q_t_house_roomOf, .ref q_t_house_effects, .ref q_t_house_badFor, .ref q_t_house_likes, .ref q_t_house_sights])), (q_t_house_ills, .inl (G 0, 18, .inl t_house_ills)), (q_t_house_roomOf, .inl (G 0, 6, .inl t_house_roomOf)), (q_t_house_effects, .inl (G 0, 12, .inl t_house_effects)), (q_t_house_badFor, .inl (G 0, 36, .inl t_house_badFor)), (q_t_house_likes, .inl (G 0, 6, .inl t_house_likes)), (q_t_house_sights, .inr (5, [.int t_house_sights_count, .ref q_t_house_sights_before, .ref q_t_house_sights_hours, .ref q_t_house_sights_after])), (q_t_house_sights_before, .inl (G 0, 8, .inl t_house_sights_before)), (q_t_house_sights_hours, .inl (G 0, 8, .inl t_house_sights_hours)), (q_t_house_sights_after, .inl (G 0, 8, .inl t_house_sights_after)), (q_t_trial, .inr (6, [.ref q_t_trial_house, .int o10, .int o11, .int o12, .int o13, .int o14])), (q_t_trial_house, .inr (1, [.int o15, .int o16, .int o17, .ref q_t_trial_house_ills, .ref q_t_trial_house_roomOf, .ref q_t_trial_house_effects, .ref q_t_trial_house_badFor, .ref q_t_trial_house_likes, .ref q_t_trial_house_sights])), (q_t_trial_house_ills, .inl (G 0, 18, .inl o18)), (q_t_trial_house_roomOf, .inl (G 0, 6, .inl o19)), (q_t_trial_house_effects, .inl (G 0, 12, .inl o20)), (q_t_trial_house_badFor, .inl (G 0, 36, .inl o21)), (q_t_trial_house_likes, .inl (G 0, 6, .inl o22)), (q_t_trial_house_sights, .inr (5, [.int o23, .ref q_t_trial_house_sights_before, .ref q_t_trial_house_sights_hours, .ref q_t_trial_house_sights_after])), (q_t_trial_house_sights_before, .inl (G 0, 8, .inl o24)), (q_t_trial_house_sights_hours, .inl (G 0, 8, .inl o25)), (q_t_trial_house_sights_after, .inl (G 0, 8, .inl o26))] H := hP
        have hD : va_D A [(q_t, .inr (7, [.ref q_t_house, .ref q_t_images, .ref q_t_pad, .ref q_t_trial, .ref q_t_placing, .ref q_t_seating, .ref q_t_chance])), (q_t_house, .inr (1, [.int t_house_there, .int t_house_sat, .int t_house_hour, .ref q_t_house_ills, .ref q_t_house_roomOf, .ref q_t_house_effects, .ref q_t_house_badFor, .ref q_t_house_likes, .ref q_t_house_sights])), (q_t_house_ills, .inl (G 0, 18, .inl t_house_ills)), (q_t_house_roomOf, .inl (G 0, 6, .inl t_house_roomOf)), (q_t_house_effects, .inl (G 0, 12, .inl t_house_effects)), (q_t_house_badFor, .inl (G 0, 36, .inl t_house_badFor)), (q_t_house_likes, .inl (G 0, 6, .inl t_house_likes)), (q_t_house_sights, .inr (5, [.int t_house_sights_count, .ref q_t_house_sights_before, .ref q_t_house_sights_hours, .ref q_t_house_sights_after])), (q_t_house_sights_before, .inl (G 0, 8, .inl t_house_sights_before)), (q_t_house_sights_hours, .inl (G 0, 8, .inl t_house_sights_hours)), (q_t_house_sights_after, .inl (G 0, 8, .inl t_house_sights_after)), (q_t_trial, .inr (6, [.ref q_t_trial_house, .int o10, .int o11, .int o12, .int o13, .int o14])), (q_t_trial_house, .inr (1, [.int o15, .int o16, .int o17, .ref q_t_trial_house_ills, .ref q_t_trial_house_roomOf, .ref q_t_trial_house_effects, .ref q_t_trial_house_badFor, .ref q_t_trial_house_likes, .ref q_t_trial_house_sights])), (q_t_trial_house_ills, .inl (G 0, 18, .inl o18)), (q_t_trial_house_roomOf, .inl (G 0, 6, .inl o19)), (q_t_trial_house_effects, .inl (G 0, 12, .inl o20)), (q_t_trial_house_badFor, .inl (G 0, 36, .inl o21)), (q_t_trial_house_likes, .inl (G 0, 6, .inl o22)), (q_t_trial_house_sights, .inr (5, [.int o23, .ref q_t_trial_house_sights_before, .ref q_t_trial_house_sights_hours, .ref q_t_trial_house_sights_after])), (q_t_trial_house_sights_before, .inl (G 0, 8, .inl o24)), (q_t_trial_house_sights_hours, .inl (G 0, 8, .inl o25)), (q_t_trial_house_sights_after, .inl (G 0, 8, .inl o26))] := hD
        refine lv_iload_n hx hb dX7_week_45 rfl (lv_at hl 3 rfl) ?_
        refine lv_if_ne (tgt := 60) hx hb dX7_week_46 (by decide) (fun c28 => ?_) (fun c28 => ?_)
        · have hf := ifn c28 hf
          refine lv_iload_n hx hb dX7_week_60 rfl (lv_at hl 3 rfl) ?_
          refine lv_iconst (v := (1 : Int32)) hx hb dX7_week_61 (by decide) ?_
          refine lv_icmp_ne (tgt := 81) hx hb dX7_week_62 (by decide) (fun c29 => ?_) (fun c29 => ?_)
          · have hf := ifn c29 hf
            refine lv_aload_n hx hb dX7_week_81 rfl (lv_at hl 0 rfl) ?_
            refine va_get (D := D) (ci := 7) (v := .ref q_t_trial) (C := RX7) (T := TX7) (N := 7) hx hb hts inX7 hown hK hP 0 rfl rfl 3 (by decide) (hts _ lfX7_30) (fun _ h9 => h9) rfl dX7_week_82 ?_
            refine va_get (D := D) (ci := 6) (v := .int o12) (C := RX6) (T := TX6) (N := 6) hx hb hts inX6 hown hK hP 11 rfl rfl 3 (by decide) (hts _ lfX7_234) (fun _ h9 => h9) rfl dX7_week_85 ?_
            exact RT _ _ _ _ _ _ _ _ _ _ _ _ _ _ _ _ _ _ hf _ _ _ H locs dX7_week_88 (rkI _) hP hD hS
          · have hf := ifp c29 hf
            refine lv_aload_n hx hb dX7_week_65 rfl (lv_at hl 0 rfl) ?_
            refine va_get (D := D) (ci := 7) (v := .ref q_t_trial) (C := RX7) (T := TX7) (N := 7) hx hb hts inX7 hown hK hP 0 rfl rfl 3 (by decide) (hts _ lfX7_30) (fun _ h9 => h9) rfl dX7_week_66 ?_
            refine va_get (D := D) (ci := 6) (v := .ref q_t_trial_house) (C := RX6) (T := TX6) (N := 6) hx hb hts inX6 hown hK hP 11 rfl rfl 0 (by decide) (hts _ lfX7_122) (fun _ h9 => h9) rfl dX7_week_69 ?_
            obtain ⟨r30, h31, hf⟩ := bd1E hf
            refine kO_virt hx hb hml hown hts hK hn hP (kX1_wellPieces l D G fu q_t_trial_house q_t_trial_house_ills q_t_trial_house_roomOf q_t_trial_house_effects q_t_trial_house_badFor q_t_trial_house_likes q_t_trial_house_sights o15 o16 o17 o18 h31) cvX7_137 ⟨Nat.le_of_ble_eq_true rfl, Nat.le_of_ble_eq_true rfl⟩ [12, 13] rfl 12 rfl rfl rfl hl.1 rfl (Nat.le_of_ble_eq_true rfl) ⟨Nat.zero_le _, Nat.zero_le _⟩ dX7_week_72 ?_
            obtain ⟨r32, h33, hf⟩ := bd1E hf
            refine kO_stat hx hb hml hown hts hK hn hP (kJ6_bitCount_0f7a4 l D G r30 h33) csX7_71 ⟨Nat.le_of_ble_eq_true rfl, Nat.le_of_ble_eq_true rfl⟩ [] rfl rfl hl.1 rfl (Nat.le_of_ble_eq_true rfl) ⟨Nat.zero_le _, Nat.zero_le _⟩ dX7_week_75 ?_
            refine lv_goto (tgt := 88) hx hb dX7_week_78 (by decide) ?_
            exact RT _ _ _ _ _ _ _ _ _ _ _ _ _ _ _ _ _ _ hf _ _ _ H locs dX7_week_88 (rkI _) hP hD hS
        · have hf := ifp c28 hf
          refine lv_aload_n hx hb dX7_week_49 rfl (lv_at hl 0 rfl) ?_
          refine va_get (D := D) (ci := 7) (v := .ref q_t_trial) (C := RX7) (T := TX7) (N := 7) hx hb hts inX7 hown hK hP 0 rfl rfl 3 (by decide) (hts _ lfX7_30) (fun _ h9 => h9) rfl dX7_week_50 ?_
          refine va_get (D := D) (ci := 6) (v := .ref q_t_trial_house) (C := RX6) (T := TX6) (N := 6) hx hb hts inX6 hown hK hP 11 rfl rfl 0 (by decide) (hts _ lfX7_122) (fun _ h9 => h9) rfl dX7_week_53 ?_
          obtain ⟨r34, h35, hf⟩ := bd1E hf
          refine kO_virt hx hb hml hown hts hK hn hP (kX1_illsOfAll l D G fu q_t_trial_house q_t_trial_house_ills q_t_trial_house_roomOf q_t_trial_house_effects q_t_trial_house_badFor q_t_trial_house_likes q_t_trial_house_sights o15 o16 o17 o18 h35) cvX7_231 ⟨Nat.le_of_ble_eq_true rfl, Nat.le_of_ble_eq_true rfl⟩ [12, 13] rfl 12 rfl rfl rfl hl.1 rfl (Nat.le_of_ble_eq_true rfl) ⟨Nat.zero_le _, Nat.zero_le _⟩ dX7_week_56 ?_
          exact RT _ _ _ _ _ _ _ _ _ _ _ _ _ _ _ _ _ _ hf _ _ _ H locs dX7_week_59 (rkI _) hP hD hS
      · have hf := ifp c9 hf
        refine lv_bipush (v := (-2 : Int32)) hx hb dX7_week_29 (by decide) ?_
        exact RT _ _ _ _ _ _ _ _ _ _ _ _ _ _ _ _ _ _ hf _ _ _ H locs dX7_week_31 (rkI _) hP hD hS
set_option maxHeartbeats 4000000 in
set_option maxRecDepth 100000 in
theorem kX7_well (l : Launch) (D : va_G) (G : Nat → ClassId) (fu : Nat) (q_t q_t_house q_t_images q_t_pad q_t_trial q_t_placing q_t_seating q_t_chance q_t_house_ills q_t_house_roomOf q_t_house_effects q_t_house_badFor q_t_house_likes q_t_house_sights : Nat) (t_house_there : Int32) (t_house_sat : Int32) (t_house_hour : Int32) (t_house_ills : Nat → Int32) {r : Int32} (hf : fX7_well fu t_house_there t_house_ills = some r) : rO l D G yX7_well cX7_well 1 (some .int) 4 125 [.ref q_t] [(q_t, .inr (7, [.ref q_t_house, .ref q_t_images, .ref q_t_pad, .ref q_t_trial, .ref q_t_placing, .ref q_t_seating, .ref q_t_chance])), (q_t_house, .inr (1, [.int t_house_there, .int t_house_sat, .int t_house_hour, .ref q_t_house_ills, .ref q_t_house_roomOf, .ref q_t_house_effects, .ref q_t_house_badFor, .ref q_t_house_likes, .ref q_t_house_sights])), (q_t_house_ills, .inl (G 0, 18, .inl t_house_ills))] (some (.int r)) := by
  refine rO_of (by decide) (Nat.le_of_ble_eq_true rfl) ?_
  intro p e s m args below meth c Q hx hb hml hown hts hK hn hP RET ls hl
  have RT : ∀ (a0_ : Int32), some a0_ = some r → ∀ (pc : Nat) (ls : Array Slot) (ins : Instr), decode cX7_well pc = .ok (ins, 1) → rk (some .int) (some (.int a0_)) ins → W p l e (kR 4 125) s m args below meth c s.heap [] 0 0 Q (F0 m pc ls [.int a0_]) := by
    intro a0_ hy; obtain rfl := sm1 hy
    exact RET
  have hown : s.vm.findClass RX7 = some m.cls := hown
  have hl : lv_has ls 1 [(0, .ref q_t)] := hl
  clear RET
  rw [fX7_well] at hf
  refine lv_aload_n hx hb dX7_well_0 rfl (lv_at hl 0 rfl) ?_
  refine va_get (D := D) (ci := 7) (v := .ref q_t_house) (C := RX7) (T := TX7) (N := 7) hx hb hts inX7 hown hK hP 0 rfl rfl 0 (by decide) (hts _ lfX7_12) (fun _ h9 => h9) rfl dX7_well_1 ?_
  obtain ⟨r1, h2, hf⟩ := bd1E hf
  refine kO_virt hx hb hml hown hts hK hn hP (kX1_wellPieces l D G fu q_t_house q_t_house_ills q_t_house_roomOf q_t_house_effects q_t_house_badFor q_t_house_likes q_t_house_sights t_house_there t_house_sat t_house_hour t_house_ills h2) cvX7_137 ⟨Nat.le_of_ble_eq_true rfl, Nat.le_of_ble_eq_true rfl⟩ [1, 2] rfl 1 rfl rfl rfl hl.1 rfl (Nat.le_of_ble_eq_true rfl) ⟨Nat.zero_le _, Nat.zero_le _⟩ dX7_well_4 ?_
  exact RT _ hf _ _ _ dX7_well_7 (rkI _)
set_option maxHeartbeats 4000000 in
set_option maxRecDepth 100000 in
theorem kX7_wipe (l : Launch) (D : va_G) (G : Nat → ClassId) (q_t q_t_house q_t_images q_t_pad q_t_trial q_t_placing q_t_seating q_t_chance q_t_pad_signs : Nat) (t_pad_length : Int32) {r : Int32} {o_t_pad_length : Int32} (hf : fX7_wipe t_pad_length = some (r, o_t_pad_length)) : rW l D G yX7_wipe cX7_wipe 2 (some .int) 1 60 [.ref q_t] [(q_t, .inr (7, [.ref q_t_house, .ref q_t_images, .ref q_t_pad, .ref q_t_trial, .ref q_t_placing, .ref q_t_seating, .ref q_t_chance])), (q_t_pad, .inr (2, [.int t_pad_length, .ref q_t_pad_signs]))] [(q_t, .inr (7, [.ref q_t_house, .ref q_t_images, .ref q_t_pad, .ref q_t_trial, .ref q_t_placing, .ref q_t_seating, .ref q_t_chance])), (q_t_pad, .inr (2, [.int o_t_pad_length, .ref q_t_pad_signs]))] (some (.int r)) := by
  refine rW_of (by decide) (Nat.le_of_ble_eq_true rfl) ?_
  intro p e s m args below meth c Q A hx hb hml hown hts hK hn hA RET H locs hP hD hS ls hl
  have RT : ∀ (a0_ : Int32) (a1_ : Int32), some (a0_, a1_) = some (r, o_t_pad_length) → ∀ (pc : Nat) (ls : Array Slot) (ins : Instr) (H : Heap) (locs : List Loc), decode cX7_wipe pc = .ok (ins, 1) → rk (some .int) (some (.int a0_)) ins → va_P D vwCl [(q_t, .inr (7, [.ref q_t_house, .ref q_t_images, .ref q_t_pad, .ref q_t_trial, .ref q_t_placing, .ref q_t_seating, .ref q_t_chance])), (q_t_pad, .inr (2, [.int a1_, .ref q_t_pad_signs]))] H → va_D A [(q_t, .inr (7, [.ref q_t_house, .ref q_t_images, .ref q_t_pad, .ref q_t_trial, .ref q_t_placing, .ref q_t_seating, .ref q_t_chance])), (q_t_pad, .inr (2, [.int a1_, .ref q_t_pad_signs]))] → va_S A s.heap H locs → W p l e (kR 1 60) s m args below meth c H locs 0 0 Q (F0 m pc ls [.int a0_]) := by
    intro a0_ a1_ hy; obtain ⟨rfl, rfl⟩ := sm2 hy
    exact RET
  have hown : s.vm.findClass RX7 = some m.cls := hown
  have hl : lv_has ls 2 [(0, .ref q_t)] := hl
  clear RET
  rw [fX7_wipe] at hf
  refine lv_aload_n hx hb dX7_wipe_0 rfl (lv_at hl 0 rfl) ?_
  refine va_get (D := D) (ci := 7) (v := .ref q_t_pad) (C := RX7) (T := TX7) (N := 7) hx hb hts inX7 hown hK hP 0 rfl rfl 2 (by decide) (hts _ lfX7_23) (fun _ h9 => h9) rfl dX7_wipe_1 ?_
  refine va_get (D := D) (ci := 2) (v := .int t_pad_length) (C := RX2) (T := TX2) (N := 2) hx hb hts inX2 hown hK hP 1 rfl rfl 0 (by decide) (hts _ lfX7_102) (fun _ h9 => h9) rfl dX7_wipe_4 ?_
  refine lv_istore_n (lv' := [(1, .int t_pad_length), (0, .ref q_t)]) hx hb dX7_wipe_7 rfl hl (by decide) rfl (fun ls hl => ?_)
  refine lv_aload_n hx hb dX7_wipe_8 rfl (lv_at hl 1 rfl) ?_
  refine va_get (D := D) (ci := 7) (v := .ref q_t_pad) (C := RX7) (T := TX7) (N := 7) hx hb hts inX7 hown hK hP 0 rfl rfl 2 (by decide) (hts _ lfX7_23) (fun _ h9 => h9) rfl dX7_wipe_9 ?_
  refine lv_iconst (v := (0 : Int32)) hx hb dX7_wipe_12 (by decide) ?_
  refine va_put (D := D) (ci := 2) (v := .int (0 : Int32)) (ty := .int) (C := RX2) (T := TX2) (N := 2) hx hb hts inX2 tyX2 tyX2_ok nmX2 hown hK hP hD hS 1 rfl rfl 0 (by decide) (hts _ lfX7_102) (fun _ h9 => h9) rfl (tyX2_ok 0 (by decide)) rfl rfl (Nat.le_of_ble_eq_true rfl) dX7_wipe_13 (fun H locs hP hD hS => ?_)
  have hP : va_P D vwCl [(q_t, .inr (7, [.ref q_t_house, .ref q_t_images, .ref q_t_pad, .ref q_t_trial, .ref q_t_placing, .ref q_t_seating, .ref q_t_chance])), (q_t_pad, .inr (2, [.int (0 : Int32), .ref q_t_pad_signs]))] H := hP
  have hD : va_D A [(q_t, .inr (7, [.ref q_t_house, .ref q_t_images, .ref q_t_pad, .ref q_t_trial, .ref q_t_placing, .ref q_t_seating, .ref q_t_chance])), (q_t_pad, .inr (2, [.int (0 : Int32), .ref q_t_pad_signs]))] := hD
  refine lv_iload_n hx hb dX7_wipe_16 rfl (lv_at hl 0 rfl) ?_
  exact RT _ _ hf _ _ _ H locs dX7_wipe_17 (rkI _) hP hD hS
set_option maxHeartbeats 4000000 in
set_option maxRecDepth 100000 in
theorem kX7_worse (l : Launch) (D : va_G) (G : Nat → ClassId) (fu : Nat) (q_t q_t_house q_t_images q_t_pad q_t_trial q_t_placing q_t_seating q_t_chance q_t_house_ills q_t_house_roomOf q_t_house_effects q_t_house_badFor q_t_house_likes q_t_house_sights q_t_house_sights_before q_t_house_sights_hours q_t_house_sights_after q_t_pad_signs q_t_trial_house q_t_trial_house_ills q_t_trial_house_roomOf q_t_trial_house_effects q_t_trial_house_badFor q_t_trial_house_likes q_t_trial_house_sights q_t_trial_house_sights_before q_t_trial_house_sights_hours q_t_trial_house_sights_after : Nat) (t_house_there : Int32) (t_house_sat : Int32) (t_house_hour : Int32) (t_house_ills : Nat → Int32) (t_house_roomOf : Nat → Int32) (t_house_effects : Nat → Int32) (t_house_badFor : Nat → Int32) (t_house_likes : Nat → Int32) (t_house_sights_count : Int32) (t_house_sights_before : Nat → Int32) (t_house_sights_hours : Nat → Int32) (t_house_sights_after : Nat → Int32) (t_pad_length : Int32) (t_pad_signs : Nat → Int32) (t_trial_acts : Int32) (t_trial_why : Int32) (t_trial_hours : Int32) (t_trial_worseHour : Int32) (t_trial_worsePiece : Int32) (t_trial_house_there : Int32) (t_trial_house_sat : Int32) (t_trial_house_hour : Int32) (t_trial_house_ills : Nat → Int32) (t_trial_house_roomOf : Nat → Int32) (t_trial_house_effects : Nat → Int32) (t_trial_house_badFor : Nat → Int32) (t_trial_house_likes : Nat → Int32) (t_trial_house_sights_count : Int32) (t_trial_house_sights_before : Nat → Int32) (t_trial_house_sights_hours : Nat → Int32) (t_trial_house_sights_after : Nat → Int32) (v1 : Int32) {r : Int32} {o_t_trial_acts : Int32} {o_t_trial_why : Int32} {o_t_trial_hours : Int32} {o_t_trial_worseHour : Int32} {o_t_trial_worsePiece : Int32} {o_t_trial_house_there : Int32} {o_t_trial_house_sat : Int32} {o_t_trial_house_hour : Int32} {o_t_trial_house_ills : Nat → Int32} {o_t_trial_house_roomOf : Nat → Int32} {o_t_trial_house_effects : Nat → Int32} {o_t_trial_house_badFor : Nat → Int32} {o_t_trial_house_likes : Nat → Int32} {o_t_trial_house_sights_count : Int32} {o_t_trial_house_sights_before : Nat → Int32} {o_t_trial_house_sights_hours : Nat → Int32} {o_t_trial_house_sights_after : Nat → Int32} (hf : fX7_worse fu t_house_there t_house_sat t_house_hour t_house_ills t_house_roomOf t_house_effects t_house_badFor t_house_likes t_house_sights_count t_house_sights_before t_house_sights_hours t_house_sights_after t_pad_length t_pad_signs t_trial_acts t_trial_why t_trial_hours t_trial_worseHour t_trial_worsePiece t_trial_house_there t_trial_house_sat t_trial_house_hour t_trial_house_ills t_trial_house_roomOf t_trial_house_effects t_trial_house_badFor t_trial_house_likes t_trial_house_sights_count t_trial_house_sights_before t_trial_house_sights_hours t_trial_house_sights_after v1 = some (r, o_t_trial_acts, o_t_trial_why, o_t_trial_hours, o_t_trial_worseHour, o_t_trial_worsePiece, o_t_trial_house_there, o_t_trial_house_sat, o_t_trial_house_hour, o_t_trial_house_ills, o_t_trial_house_roomOf, o_t_trial_house_effects, o_t_trial_house_badFor, o_t_trial_house_likes, o_t_trial_house_sights_count, o_t_trial_house_sights_before, o_t_trial_house_sights_hours, o_t_trial_house_sights_after)) : rW l D G yX7_worse cX7_worse 2 (some .int) 7 228 [.ref q_t, .int v1] [(q_t, .inr (7, [.ref q_t_house, .ref q_t_images, .ref q_t_pad, .ref q_t_trial, .ref q_t_placing, .ref q_t_seating, .ref q_t_chance])), (q_t_house, .inr (1, [.int t_house_there, .int t_house_sat, .int t_house_hour, .ref q_t_house_ills, .ref q_t_house_roomOf, .ref q_t_house_effects, .ref q_t_house_badFor, .ref q_t_house_likes, .ref q_t_house_sights])), (q_t_house_ills, .inl (G 0, 18, .inl t_house_ills)), (q_t_house_roomOf, .inl (G 0, 6, .inl t_house_roomOf)), (q_t_house_effects, .inl (G 0, 12, .inl t_house_effects)), (q_t_house_badFor, .inl (G 0, 36, .inl t_house_badFor)), (q_t_house_likes, .inl (G 0, 6, .inl t_house_likes)), (q_t_house_sights, .inr (5, [.int t_house_sights_count, .ref q_t_house_sights_before, .ref q_t_house_sights_hours, .ref q_t_house_sights_after])), (q_t_house_sights_before, .inl (G 0, 8, .inl t_house_sights_before)), (q_t_house_sights_hours, .inl (G 0, 8, .inl t_house_sights_hours)), (q_t_house_sights_after, .inl (G 0, 8, .inl t_house_sights_after)), (q_t_pad, .inr (2, [.int t_pad_length, .ref q_t_pad_signs])), (q_t_pad_signs, .inl (G 0, 60, .inl t_pad_signs)), (q_t_trial, .inr (6, [.ref q_t_trial_house, .int t_trial_acts, .int t_trial_why, .int t_trial_hours, .int t_trial_worseHour, .int t_trial_worsePiece])), (q_t_trial_house, .inr (1, [.int t_trial_house_there, .int t_trial_house_sat, .int t_trial_house_hour, .ref q_t_trial_house_ills, .ref q_t_trial_house_roomOf, .ref q_t_trial_house_effects, .ref q_t_trial_house_badFor, .ref q_t_trial_house_likes, .ref q_t_trial_house_sights])), (q_t_trial_house_ills, .inl (G 0, 18, .inl t_trial_house_ills)), (q_t_trial_house_roomOf, .inl (G 0, 6, .inl t_trial_house_roomOf)), (q_t_trial_house_effects, .inl (G 0, 12, .inl t_trial_house_effects)), (q_t_trial_house_badFor, .inl (G 0, 36, .inl t_trial_house_badFor)), (q_t_trial_house_likes, .inl (G 0, 6, .inl t_trial_house_likes)), (q_t_trial_house_sights, .inr (5, [.int t_trial_house_sights_count, .ref q_t_trial_house_sights_before, .ref q_t_trial_house_sights_hours, .ref q_t_trial_house_sights_after])), (q_t_trial_house_sights_before, .inl (G 0, 8, .inl t_trial_house_sights_before)), (q_t_trial_house_sights_hours, .inl (G 0, 8, .inl t_trial_house_sights_hours)), (q_t_trial_house_sights_after, .inl (G 0, 8, .inl t_trial_house_sights_after))] [(q_t, .inr (7, [.ref q_t_house, .ref q_t_images, .ref q_t_pad, .ref q_t_trial, .ref q_t_placing, .ref q_t_seating, .ref q_t_chance])), (q_t_house, .inr (1, [.int t_house_there, .int t_house_sat, .int t_house_hour, .ref q_t_house_ills, .ref q_t_house_roomOf, .ref q_t_house_effects, .ref q_t_house_badFor, .ref q_t_house_likes, .ref q_t_house_sights])), (q_t_house_ills, .inl (G 0, 18, .inl t_house_ills)), (q_t_house_roomOf, .inl (G 0, 6, .inl t_house_roomOf)), (q_t_house_effects, .inl (G 0, 12, .inl t_house_effects)), (q_t_house_badFor, .inl (G 0, 36, .inl t_house_badFor)), (q_t_house_likes, .inl (G 0, 6, .inl t_house_likes)), (q_t_house_sights, .inr (5, [.int t_house_sights_count, .ref q_t_house_sights_before, .ref q_t_house_sights_hours, .ref q_t_house_sights_after])), (q_t_house_sights_before, .inl (G 0, 8, .inl t_house_sights_before)), (q_t_house_sights_hours, .inl (G 0, 8, .inl t_house_sights_hours)), (q_t_house_sights_after, .inl (G 0, 8, .inl t_house_sights_after)), (q_t_pad, .inr (2, [.int t_pad_length, .ref q_t_pad_signs])), (q_t_pad_signs, .inl (G 0, 60, .inl t_pad_signs)), (q_t_trial, .inr (6, [.ref q_t_trial_house, .int o_t_trial_acts, .int o_t_trial_why, .int o_t_trial_hours, .int o_t_trial_worseHour, .int o_t_trial_worsePiece])), (q_t_trial_house, .inr (1, [.int o_t_trial_house_there, .int o_t_trial_house_sat, .int o_t_trial_house_hour, .ref q_t_trial_house_ills, .ref q_t_trial_house_roomOf, .ref q_t_trial_house_effects, .ref q_t_trial_house_badFor, .ref q_t_trial_house_likes, .ref q_t_trial_house_sights])), (q_t_trial_house_ills, .inl (G 0, 18, .inl o_t_trial_house_ills)), (q_t_trial_house_roomOf, .inl (G 0, 6, .inl o_t_trial_house_roomOf)), (q_t_trial_house_effects, .inl (G 0, 12, .inl o_t_trial_house_effects)), (q_t_trial_house_badFor, .inl (G 0, 36, .inl o_t_trial_house_badFor)), (q_t_trial_house_likes, .inl (G 0, 6, .inl o_t_trial_house_likes)), (q_t_trial_house_sights, .inr (5, [.int o_t_trial_house_sights_count, .ref q_t_trial_house_sights_before, .ref q_t_trial_house_sights_hours, .ref q_t_trial_house_sights_after])), (q_t_trial_house_sights_before, .inl (G 0, 8, .inl o_t_trial_house_sights_before)), (q_t_trial_house_sights_hours, .inl (G 0, 8, .inl o_t_trial_house_sights_hours)), (q_t_trial_house_sights_after, .inl (G 0, 8, .inl o_t_trial_house_sights_after))] (some (.int r)) := by
  refine rW_of (by decide) (Nat.le_of_ble_eq_true rfl) ?_
  intro p e s m args below meth c Q A hx hb hml hown hts hK hn hA RET H locs hP hD hS ls hl
  have RT : ∀ (a0_ : Int32) (a1_ : Int32) (a2_ : Int32) (a3_ : Int32) (a4_ : Int32) (a5_ : Int32) (a6_ : Int32) (a7_ : Int32) (a8_ : Int32) (a9_ : Nat → Int32) (a10_ : Nat → Int32) (a11_ : Nat → Int32) (a12_ : Nat → Int32) (a13_ : Nat → Int32) (a14_ : Int32) (a15_ : Nat → Int32) (a16_ : Nat → Int32) (a17_ : Nat → Int32), some (a0_, a1_, a2_, a3_, a4_, a5_, a6_, a7_, a8_, a9_, a10_, a11_, a12_, a13_, a14_, a15_, a16_, a17_) = some (r, o_t_trial_acts, o_t_trial_why, o_t_trial_hours, o_t_trial_worseHour, o_t_trial_worsePiece, o_t_trial_house_there, o_t_trial_house_sat, o_t_trial_house_hour, o_t_trial_house_ills, o_t_trial_house_roomOf, o_t_trial_house_effects, o_t_trial_house_badFor, o_t_trial_house_likes, o_t_trial_house_sights_count, o_t_trial_house_sights_before, o_t_trial_house_sights_hours, o_t_trial_house_sights_after) → ∀ (pc : Nat) (ls : Array Slot) (ins : Instr) (H : Heap) (locs : List Loc), decode cX7_worse pc = .ok (ins, 1) → rk (some .int) (some (.int a0_)) ins → va_P D vwCl [(q_t, .inr (7, [.ref q_t_house, .ref q_t_images, .ref q_t_pad, .ref q_t_trial, .ref q_t_placing, .ref q_t_seating, .ref q_t_chance])), (q_t_house, .inr (1, [.int t_house_there, .int t_house_sat, .int t_house_hour, .ref q_t_house_ills, .ref q_t_house_roomOf, .ref q_t_house_effects, .ref q_t_house_badFor, .ref q_t_house_likes, .ref q_t_house_sights])), (q_t_house_ills, .inl (G 0, 18, .inl t_house_ills)), (q_t_house_roomOf, .inl (G 0, 6, .inl t_house_roomOf)), (q_t_house_effects, .inl (G 0, 12, .inl t_house_effects)), (q_t_house_badFor, .inl (G 0, 36, .inl t_house_badFor)), (q_t_house_likes, .inl (G 0, 6, .inl t_house_likes)), (q_t_house_sights, .inr (5, [.int t_house_sights_count, .ref q_t_house_sights_before, .ref q_t_house_sights_hours, .ref q_t_house_sights_after])), (q_t_house_sights_before, .inl (G 0, 8, .inl t_house_sights_before)), (q_t_house_sights_hours, .inl (G 0, 8, .inl t_house_sights_hours)), (q_t_house_sights_after, .inl (G 0, 8, .inl t_house_sights_after)), (q_t_pad, .inr (2, [.int t_pad_length, .ref q_t_pad_signs])), (q_t_pad_signs, .inl (G 0, 60, .inl t_pad_signs)), (q_t_trial, .inr (6, [.ref q_t_trial_house, .int a1_, .int a2_, .int a3_, .int a4_, .int a5_])), (q_t_trial_house, .inr (1, [.int a6_, .int a7_, .int a8_, .ref q_t_trial_house_ills, .ref q_t_trial_house_roomOf, .ref q_t_trial_house_effects, .ref q_t_trial_house_badFor, .ref q_t_trial_house_likes, .ref q_t_trial_house_sights])), (q_t_trial_house_ills, .inl (G 0, 18, .inl a9_)), (q_t_trial_house_roomOf, .inl (G 0, 6, .inl a10_)), (q_t_trial_house_effects, .inl (G 0, 12, .inl a11_)), (q_t_trial_house_badFor, .inl (G 0, 36, .inl a12_)), (q_t_trial_house_likes, .inl (G 0, 6, .inl a13_)), (q_t_trial_house_sights, .inr (5, [.int a14_, .ref q_t_trial_house_sights_before, .ref q_t_trial_house_sights_hours, .ref q_t_trial_house_sights_after])), (q_t_trial_house_sights_before, .inl (G 0, 8, .inl a15_)), (q_t_trial_house_sights_hours, .inl (G 0, 8, .inl a16_)), (q_t_trial_house_sights_after, .inl (G 0, 8, .inl a17_))] H → va_D A [(q_t, .inr (7, [.ref q_t_house, .ref q_t_images, .ref q_t_pad, .ref q_t_trial, .ref q_t_placing, .ref q_t_seating, .ref q_t_chance])), (q_t_house, .inr (1, [.int t_house_there, .int t_house_sat, .int t_house_hour, .ref q_t_house_ills, .ref q_t_house_roomOf, .ref q_t_house_effects, .ref q_t_house_badFor, .ref q_t_house_likes, .ref q_t_house_sights])), (q_t_house_ills, .inl (G 0, 18, .inl t_house_ills)), (q_t_house_roomOf, .inl (G 0, 6, .inl t_house_roomOf)), (q_t_house_effects, .inl (G 0, 12, .inl t_house_effects)), (q_t_house_badFor, .inl (G 0, 36, .inl t_house_badFor)), (q_t_house_likes, .inl (G 0, 6, .inl t_house_likes)), (q_t_house_sights, .inr (5, [.int t_house_sights_count, .ref q_t_house_sights_before, .ref q_t_house_sights_hours, .ref q_t_house_sights_after])), (q_t_house_sights_before, .inl (G 0, 8, .inl t_house_sights_before)), (q_t_house_sights_hours, .inl (G 0, 8, .inl t_house_sights_hours)), (q_t_house_sights_after, .inl (G 0, 8, .inl t_house_sights_after)), (q_t_pad, .inr (2, [.int t_pad_length, .ref q_t_pad_signs])), (q_t_pad_signs, .inl (G 0, 60, .inl t_pad_signs)), (q_t_trial, .inr (6, [.ref q_t_trial_house, .int a1_, .int a2_, .int a3_, .int a4_, .int a5_])), (q_t_trial_house, .inr (1, [.int a6_, .int a7_, .int a8_, .ref q_t_trial_house_ills, .ref q_t_trial_house_roomOf, .ref q_t_trial_house_effects, .ref q_t_trial_house_badFor, .ref q_t_trial_house_likes, .ref q_t_trial_house_sights])), (q_t_trial_house_ills, .inl (G 0, 18, .inl a9_)), (q_t_trial_house_roomOf, .inl (G 0, 6, .inl a10_)), (q_t_trial_house_effects, .inl (G 0, 12, .inl a11_)), (q_t_trial_house_badFor, .inl (G 0, 36, .inl a12_)), (q_t_trial_house_likes, .inl (G 0, 6, .inl a13_)), (q_t_trial_house_sights, .inr (5, [.int a14_, .ref q_t_trial_house_sights_before, .ref q_t_trial_house_sights_hours, .ref q_t_trial_house_sights_after])), (q_t_trial_house_sights_before, .inl (G 0, 8, .inl a15_)), (q_t_trial_house_sights_hours, .inl (G 0, 8, .inl a16_)), (q_t_trial_house_sights_after, .inl (G 0, 8, .inl a17_))] → va_S A s.heap H locs → W p l e (kR 7 228) s m args below meth c H locs 0 0 Q (F0 m pc ls [.int a0_]) := by
    intro a0_ a1_ a2_ a3_ a4_ a5_ a6_ a7_ a8_ a9_ a10_ a11_ a12_ a13_ a14_ a15_ a16_ a17_ hy; obtain ⟨rfl, rfl, rfl, rfl, rfl, rfl, rfl, rfl, rfl, rfl, rfl, rfl, rfl, rfl, rfl, rfl, rfl, rfl⟩ := sm18 hy
    exact RET
  have hown : s.vm.findClass RX7 = some m.cls := hown
  have hl : lv_has ls 2 [(0, .ref q_t), (1, .int v1)] := hl
  clear RET
  rw [fX7_worse] at hf
  refine lv_iload_n hx hb dX7_worse_0 rfl (lv_at hl 1 rfl) ?_
  refine lv_iconst (v := (2 : Int32)) hx hb dX7_worse_1 (by decide) ?_
  obtain ⟨r1, h2, hf⟩ := bd1E hf
  refine kO_stat hx hb hml hown hts hK hn hP (kX7_isAmong l D G v1 (2 : Int32) h2) csX7_55 ⟨Nat.le_of_ble_eq_true rfl, Nat.le_of_ble_eq_true rfl⟩ [] rfl rfl hl.1 rfl (Nat.le_of_ble_eq_true rfl) ⟨Nat.zero_le _, Nat.zero_le _⟩ dX7_worse_2 ?_
  refine lv_if_ne (tgt := 11) hx hb dX7_worse_5 (by decide) (fun c3 => ?_) (fun c3 => ?_)
  · have hf := ifn c3 hf
    refine lv_aload_n hx hb dX7_worse_11 rfl (lv_at hl 0 rfl) ?_
    obtain ⟨r4, o5, o6, o7, o8, o9, o10, o11, o12, o13, o14, o15, o16, o17, o18, o19, o20, o21, h22, hf⟩ := bd18E hf
    refine kW_virt hx hb hml hown hts hK hn hA hP hD hS (kX7_canBeDone l D G fu q_t q_t_house q_t_images q_t_pad q_t_trial q_t_placing q_t_seating q_t_chance q_t_house_ills q_t_house_roomOf q_t_house_effects q_t_house_badFor q_t_house_likes q_t_house_sights q_t_house_sights_before q_t_house_sights_hours q_t_house_sights_after q_t_pad_signs q_t_trial_house q_t_trial_house_ills q_t_trial_house_roomOf q_t_trial_house_effects q_t_trial_house_badFor q_t_trial_house_likes q_t_trial_house_sights q_t_trial_house_sights_before q_t_trial_house_sights_hours q_t_trial_house_sights_after t_house_there t_house_sat t_house_hour t_house_ills t_house_roomOf t_house_effects t_house_badFor t_house_likes t_house_sights_count t_house_sights_before t_house_sights_hours t_house_sights_after t_pad_length t_pad_signs t_trial_acts t_trial_why t_trial_hours t_trial_worseHour t_trial_worsePiece t_trial_house_there t_trial_house_sat t_trial_house_hour t_trial_house_ills t_trial_house_roomOf t_trial_house_effects t_trial_house_badFor t_trial_house_likes t_trial_house_sights_count t_trial_house_sights_before t_trial_house_sights_hours t_trial_house_sights_after h22) cvX7_119 ⟨Nat.le_of_ble_eq_true rfl, Nat.le_of_ble_eq_true rfl⟩ [0, 1, 2, 3, 4, 5, 6, 7, 8, 9, 10, 11, 12, 13, 14, 15, 16, 17, 18, 19, 20, 21, 22, 23] rfl rfl [true, true, true, true, true, true, true, true, true, true, true, true, true, true, true, true, true, true, true, true, true, true, true, true] rfl (w3 := [(q_t, .inr (7, [.ref q_t_house, .ref q_t_images, .ref q_t_pad, .ref q_t_trial, .ref q_t_placing, .ref q_t_seating, .ref q_t_chance])), (q_t_house, .inr (1, [.int t_house_there, .int t_house_sat, .int t_house_hour, .ref q_t_house_ills, .ref q_t_house_roomOf, .ref q_t_house_effects, .ref q_t_house_badFor, .ref q_t_house_likes, .ref q_t_house_sights])), (q_t_house_ills, .inl (G 0, 18, .inl t_house_ills)), (q_t_house_roomOf, .inl (G 0, 6, .inl t_house_roomOf)), (q_t_house_effects, .inl (G 0, 12, .inl t_house_effects)), (q_t_house_badFor, .inl (G 0, 36, .inl t_house_badFor)), (q_t_house_likes, .inl (G 0, 6, .inl t_house_likes)), (q_t_house_sights, .inr (5, [.int t_house_sights_count, .ref q_t_house_sights_before, .ref q_t_house_sights_hours, .ref q_t_house_sights_after])), (q_t_house_sights_before, .inl (G 0, 8, .inl t_house_sights_before)), (q_t_house_sights_hours, .inl (G 0, 8, .inl t_house_sights_hours)), (q_t_house_sights_after, .inl (G 0, 8, .inl t_house_sights_after)), (q_t_pad, .inr (2, [.int t_pad_length, .ref q_t_pad_signs])), (q_t_pad_signs, .inl (G 0, 60, .inl t_pad_signs)), (q_t_trial, .inr (6, [.ref q_t_trial_house, .int o5, .int o6, .int o7, .int o8, .int o9])), (q_t_trial_house, .inr (1, [.int o10, .int o11, .int o12, .ref q_t_trial_house_ills, .ref q_t_trial_house_roomOf, .ref q_t_trial_house_effects, .ref q_t_trial_house_badFor, .ref q_t_trial_house_likes, .ref q_t_trial_house_sights])), (q_t_trial_house_ills, .inl (G 0, 18, .inl o13)), (q_t_trial_house_roomOf, .inl (G 0, 6, .inl o14)), (q_t_trial_house_effects, .inl (G 0, 12, .inl o15)), (q_t_trial_house_badFor, .inl (G 0, 36, .inl o16)), (q_t_trial_house_likes, .inl (G 0, 6, .inl o17)), (q_t_trial_house_sights, .inr (5, [.int o18, .ref q_t_trial_house_sights_before, .ref q_t_trial_house_sights_hours, .ref q_t_trial_house_sights_after])), (q_t_trial_house_sights_before, .inl (G 0, 8, .inl o19)), (q_t_trial_house_sights_hours, .inl (G 0, 8, .inl o20)), (q_t_trial_house_sights_after, .inl (G 0, 8, .inl o21))]) [0, 1, 2, 3, 4, 5, 6, 7, 8, 9, 10, 11, 12, 13, 14, 15, 16, 17, 18, 19, 20, 21, 22, 23] rfl rfl 0 rfl rfl rfl hl.1 rfl (Nat.le_of_ble_eq_true rfl) ⟨Nat.zero_le _, Nat.zero_le _⟩ dX7_worse_12 (fun H locs hP hD hS => ?_)
    have hP : va_P D vwCl [(q_t, .inr (7, [.ref q_t_house, .ref q_t_images, .ref q_t_pad, .ref q_t_trial, .ref q_t_placing, .ref q_t_seating, .ref q_t_chance])), (q_t_house, .inr (1, [.int t_house_there, .int t_house_sat, .int t_house_hour, .ref q_t_house_ills, .ref q_t_house_roomOf, .ref q_t_house_effects, .ref q_t_house_badFor, .ref q_t_house_likes, .ref q_t_house_sights])), (q_t_house_ills, .inl (G 0, 18, .inl t_house_ills)), (q_t_house_roomOf, .inl (G 0, 6, .inl t_house_roomOf)), (q_t_house_effects, .inl (G 0, 12, .inl t_house_effects)), (q_t_house_badFor, .inl (G 0, 36, .inl t_house_badFor)), (q_t_house_likes, .inl (G 0, 6, .inl t_house_likes)), (q_t_house_sights, .inr (5, [.int t_house_sights_count, .ref q_t_house_sights_before, .ref q_t_house_sights_hours, .ref q_t_house_sights_after])), (q_t_house_sights_before, .inl (G 0, 8, .inl t_house_sights_before)), (q_t_house_sights_hours, .inl (G 0, 8, .inl t_house_sights_hours)), (q_t_house_sights_after, .inl (G 0, 8, .inl t_house_sights_after)), (q_t_pad, .inr (2, [.int t_pad_length, .ref q_t_pad_signs])), (q_t_pad_signs, .inl (G 0, 60, .inl t_pad_signs)), (q_t_trial, .inr (6, [.ref q_t_trial_house, .int o5, .int o6, .int o7, .int o8, .int o9])), (q_t_trial_house, .inr (1, [.int o10, .int o11, .int o12, .ref q_t_trial_house_ills, .ref q_t_trial_house_roomOf, .ref q_t_trial_house_effects, .ref q_t_trial_house_badFor, .ref q_t_trial_house_likes, .ref q_t_trial_house_sights])), (q_t_trial_house_ills, .inl (G 0, 18, .inl o13)), (q_t_trial_house_roomOf, .inl (G 0, 6, .inl o14)), (q_t_trial_house_effects, .inl (G 0, 12, .inl o15)), (q_t_trial_house_badFor, .inl (G 0, 36, .inl o16)), (q_t_trial_house_likes, .inl (G 0, 6, .inl o17)), (q_t_trial_house_sights, .inr (5, [.int o18, .ref q_t_trial_house_sights_before, .ref q_t_trial_house_sights_hours, .ref q_t_trial_house_sights_after])), (q_t_trial_house_sights_before, .inl (G 0, 8, .inl o19)), (q_t_trial_house_sights_hours, .inl (G 0, 8, .inl o20)), (q_t_trial_house_sights_after, .inl (G 0, 8, .inl o21))] H := hP
    have hD : va_D A [(q_t, .inr (7, [.ref q_t_house, .ref q_t_images, .ref q_t_pad, .ref q_t_trial, .ref q_t_placing, .ref q_t_seating, .ref q_t_chance])), (q_t_house, .inr (1, [.int t_house_there, .int t_house_sat, .int t_house_hour, .ref q_t_house_ills, .ref q_t_house_roomOf, .ref q_t_house_effects, .ref q_t_house_badFor, .ref q_t_house_likes, .ref q_t_house_sights])), (q_t_house_ills, .inl (G 0, 18, .inl t_house_ills)), (q_t_house_roomOf, .inl (G 0, 6, .inl t_house_roomOf)), (q_t_house_effects, .inl (G 0, 12, .inl t_house_effects)), (q_t_house_badFor, .inl (G 0, 36, .inl t_house_badFor)), (q_t_house_likes, .inl (G 0, 6, .inl t_house_likes)), (q_t_house_sights, .inr (5, [.int t_house_sights_count, .ref q_t_house_sights_before, .ref q_t_house_sights_hours, .ref q_t_house_sights_after])), (q_t_house_sights_before, .inl (G 0, 8, .inl t_house_sights_before)), (q_t_house_sights_hours, .inl (G 0, 8, .inl t_house_sights_hours)), (q_t_house_sights_after, .inl (G 0, 8, .inl t_house_sights_after)), (q_t_pad, .inr (2, [.int t_pad_length, .ref q_t_pad_signs])), (q_t_pad_signs, .inl (G 0, 60, .inl t_pad_signs)), (q_t_trial, .inr (6, [.ref q_t_trial_house, .int o5, .int o6, .int o7, .int o8, .int o9])), (q_t_trial_house, .inr (1, [.int o10, .int o11, .int o12, .ref q_t_trial_house_ills, .ref q_t_trial_house_roomOf, .ref q_t_trial_house_effects, .ref q_t_trial_house_badFor, .ref q_t_trial_house_likes, .ref q_t_trial_house_sights])), (q_t_trial_house_ills, .inl (G 0, 18, .inl o13)), (q_t_trial_house_roomOf, .inl (G 0, 6, .inl o14)), (q_t_trial_house_effects, .inl (G 0, 12, .inl o15)), (q_t_trial_house_badFor, .inl (G 0, 36, .inl o16)), (q_t_trial_house_likes, .inl (G 0, 6, .inl o17)), (q_t_trial_house_sights, .inr (5, [.int o18, .ref q_t_trial_house_sights_before, .ref q_t_trial_house_sights_hours, .ref q_t_trial_house_sights_after])), (q_t_trial_house_sights_before, .inl (G 0, 8, .inl o19)), (q_t_trial_house_sights_hours, .inl (G 0, 8, .inl o20)), (q_t_trial_house_sights_after, .inl (G 0, 8, .inl o21))] := hD
    refine lv_if_ne (tgt := 21) hx hb dX7_worse_15 (by decide) (fun c23 => ?_) (fun c23 => ?_)
    · have hf := ifn c23 hf
      refine lv_iload_n hx hb dX7_worse_21 rfl (lv_at hl 1 rfl) ?_
      refine lv_if_ne (tgt := 35) hx hb dX7_worse_22 (by decide) (fun c24 => ?_) (fun c24 => ?_)
      · have hf := ifn c24 hf
        refine lv_aload_n hx hb dX7_worse_35 rfl (lv_at hl 0 rfl) ?_
        refine va_get (D := D) (ci := 7) (v := .ref q_t_trial) (C := RX7) (T := TX7) (N := 7) hx hb hts inX7 hown hK hP 0 rfl rfl 3 (by decide) (hts _ lfX7_30) (fun _ h9 => h9) rfl dX7_worse_36 ?_
        refine va_get (D := D) (ci := 6) (v := .int o9) (C := RX6) (T := TX6) (N := 6) hx hb hts inX6 hown hK hP 13 rfl rfl 5 (by decide) (hts _ lfX7_134) (fun _ h9 => h9) rfl dX7_worse_39 ?_
        exact RT _ _ _ _ _ _ _ _ _ _ _ _ _ _ _ _ _ _ hf _ _ _ H locs dX7_worse_42 (rkI _) hP hD hS
      · have hf := ifp c24 hf
        refine lv_aload_n hx hb dX7_worse_25 rfl (lv_at hl 0 rfl) ?_
        refine va_get (D := D) (ci := 7) (v := .ref q_t_trial) (C := RX7) (T := TX7) (N := 7) hx hb hts inX7 hown hK hP 0 rfl rfl 3 (by decide) (hts _ lfX7_30) (fun _ h9 => h9) rfl dX7_worse_26 ?_
        refine va_get (D := D) (ci := 6) (v := .int o8) (C := RX6) (T := TX6) (N := 6) hx hb hts inX6 hown hK hP 13 rfl rfl 4 (by decide) (hts _ lfX7_131) (fun _ h9 => h9) rfl dX7_worse_29 ?_
        refine lv_goto (tgt := 42) hx hb dX7_worse_32 (by decide) ?_
        exact RT _ _ _ _ _ _ _ _ _ _ _ _ _ _ _ _ _ _ hf _ _ _ H locs dX7_worse_42 (rkI _) hP hD hS
    · have hf := ifp c23 hf
      refine lv_bipush (v := (-5 : Int32)) hx hb dX7_worse_18 (by decide) ?_
      exact RT _ _ _ _ _ _ _ _ _ _ _ _ _ _ _ _ _ _ hf _ _ _ H locs dX7_worse_20 (rkI _) hP hD hS
  · have hf := ifp c3 hf
    refine lv_bipush (v := (-2 : Int32)) hx hb dX7_worse_8 (by decide) ?_
    exact RT _ _ _ _ _ _ _ _ _ _ _ _ _ _ _ _ _ _ hf _ _ _ H locs dX7_worse_10 (rkI _) hP hD hS
set_option maxHeartbeats 4000000 in
set_option maxRecDepth 100000 in
theorem kX8_in (l : Launch) (D : va_G) (G : Nat → ClassId) (v0 : Int32) (v1 : Int32) (v2 : Int32) {r : Int32} (hf : fX8_in v0 v1 v2 = some r) : rO l D G yX8_in cX8_in 3 (some .boolean) 1 60 [.int v0, .int v1, .int v2] [] (some (.int r)) := by
  refine rO_of (by decide) (Nat.le_of_ble_eq_true rfl) ?_
  intro p e s m args below meth c Q hx hb hml hown hts hK hn hP RET ls hl
  have RT : ∀ (a0_ : Int32), some a0_ = some r → ∀ (pc : Nat) (ls : Array Slot) (ins : Instr), decode cX8_in pc = .ok (ins, 1) → rk (some .boolean) (some (.int a0_)) ins → W p l e (kR 1 60) s m args below meth c s.heap [] 0 0 Q (F0 m pc ls [.int a0_]) := by
    intro a0_ hy; obtain rfl := sm1 hy
    exact RET
  have hown : s.vm.findClass RX8 = some m.cls := hown
  have hl : lv_has ls 3 [(0, .int v0), (1, .int v1), (2, .int v2)] := hl
  clear RET
  rw [fX8_in] at hf
  refine lv_iload_n hx hb dX8_in_0 rfl (lv_at hl 0 rfl) ?_
  refine lv_iload_n hx hb dX8_in_1 rfl (lv_at hl 1 rfl) ?_
  refine lv_icmp_lt (tgt := 14) hx hb dX8_in_2 (by decide) (fun c1 => ?_) (fun c1 => ?_)
  · have hf := ifp c1 hf
    refine lv_iconst (v := (0 : Int32)) hx hb dX8_in_14 (by decide) ?_
    exact RT _ hf _ _ _ dX8_in_15 (rkZ (Or.inl rfl))
  · have hf := ifn c1 hf
    refine lv_iload_n hx hb dX8_in_5 rfl (lv_at hl 0 rfl) ?_
    refine lv_iload_n hx hb dX8_in_6 rfl (lv_at hl 2 rfl) ?_
    refine lv_icmp_gt (tgt := 14) hx hb dX8_in_7 (by decide) (fun c2 => ?_) (fun c2 => ?_)
    · have hf := ifp c2 hf
      refine lv_iconst (v := (0 : Int32)) hx hb dX8_in_14 (by decide) ?_
      exact RT _ hf _ _ _ dX8_in_15 (rkZ (Or.inl rfl))
    · have hf := ifn c2 hf
      refine lv_iconst (v := (1 : Int32)) hx hb dX8_in_10 (by decide) ?_
      refine lv_goto (tgt := 15) hx hb dX8_in_11 (by decide) ?_
      exact RT _ hf _ _ _ dX8_in_15 (rkZ (Or.inr rfl))
set_option maxHeartbeats 4000000 in
set_option maxRecDepth 100000 in
theorem kX8_asNow (l : Launch) (D : va_G) (G : Nat → ClassId) (fu : Nat) (q_t q_t_book q_t_now q_t_does q_t_bad q_t_likes q_t_sight q_t_pad q_t_then q_t_ahead q_t_most q_t_worth q_t_damp q_t_next q_t_image q_t_isKept : Nat) (t_there : Int32) (t_sights : Int32) (t_signs : Int32) (t_worseAt : Int32) (t_worseWho : Int32) (t_hours : Int32) (t_reason : Int32) (t_acts : Int32) (t_book : Nat → Int32) (t_now : Nat → Int32) {o_t_now : Nat → Int32} (hf : fX8_asNow fu t_book t_now = some o_t_now) : rW l D G yX8_asNow cX8_asNow 2 none 1 60 [.ref q_t] [(q_t, .inr (8, [.int t_there, .ref q_t_book, .ref q_t_now, .ref q_t_does, .ref q_t_bad, .ref q_t_likes, .int t_sights, .ref q_t_sight, .int t_signs, .ref q_t_pad, .ref q_t_then, .int t_worseAt, .int t_worseWho, .int t_hours, .ref q_t_ahead, .int t_reason, .int t_acts, .ref q_t_most, .ref q_t_worth, .ref q_t_damp, .ref q_t_next, .ref q_t_image, .ref q_t_isKept])), (q_t_book, .inl (G 0, 26, .inl t_book)), (q_t_now, .inl (G 0, 26, .inl t_now))] [(q_t, .inr (8, [.int t_there, .ref q_t_book, .ref q_t_now, .ref q_t_does, .ref q_t_bad, .ref q_t_likes, .int t_sights, .ref q_t_sight, .int t_signs, .ref q_t_pad, .ref q_t_then, .int t_worseAt, .int t_worseWho, .int t_hours, .ref q_t_ahead, .int t_reason, .int t_acts, .ref q_t_most, .ref q_t_worth, .ref q_t_damp, .ref q_t_next, .ref q_t_image, .ref q_t_isKept])), (q_t_book, .inl (G 0, 26, .inl t_book)), (q_t_now, .inl (G 0, 26, .inl o_t_now))] none := by
  refine rW_of (by decide) (Nat.le_of_ble_eq_true rfl) ?_
  intro p e s m args below meth c Q A hx hb hml hown hts hK hn hA RET H locs hP hD hS ls hl
  have RT : ∀ (a0_ : Nat → Int32), some a0_ = some o_t_now → ∀ (pc : Nat) (ls : Array Slot) (ins : Instr) (H : Heap) (locs : List Loc), decode cX8_asNow pc = .ok (ins, 1) → rk none none ins → va_P D vwCl [(q_t, .inr (8, [.int t_there, .ref q_t_book, .ref q_t_now, .ref q_t_does, .ref q_t_bad, .ref q_t_likes, .int t_sights, .ref q_t_sight, .int t_signs, .ref q_t_pad, .ref q_t_then, .int t_worseAt, .int t_worseWho, .int t_hours, .ref q_t_ahead, .int t_reason, .int t_acts, .ref q_t_most, .ref q_t_worth, .ref q_t_damp, .ref q_t_next, .ref q_t_image, .ref q_t_isKept])), (q_t_book, .inl (G 0, 26, .inl t_book)), (q_t_now, .inl (G 0, 26, .inl a0_))] H → va_D A [(q_t, .inr (8, [.int t_there, .ref q_t_book, .ref q_t_now, .ref q_t_does, .ref q_t_bad, .ref q_t_likes, .int t_sights, .ref q_t_sight, .int t_signs, .ref q_t_pad, .ref q_t_then, .int t_worseAt, .int t_worseWho, .int t_hours, .ref q_t_ahead, .int t_reason, .int t_acts, .ref q_t_most, .ref q_t_worth, .ref q_t_damp, .ref q_t_next, .ref q_t_image, .ref q_t_isKept])), (q_t_book, .inl (G 0, 26, .inl t_book)), (q_t_now, .inl (G 0, 26, .inl a0_))] → va_S A s.heap H locs → W p l e (kR 1 60) s m args below meth c H locs 0 0 Q (F0 m pc ls []) := by
    intro a0_ hy; obtain rfl := sm1 hy
    exact RET
  have hown : s.vm.findClass RX8 = some m.cls := hown
  have hl : lv_has ls 2 [(0, .ref q_t)] := hl
  clear RET
  rw [fX8_asNow] at hf
  refine lv_iconst (v := (0 : Int32)) hx hb dX8_asNow_0 (by decide) ?_
  refine lv_istore_n (lv' := [(1, .int (0 : Int32)), (0, .ref q_t)]) hx hb dX8_asNow_1 rfl hl (by decide) rfl (fun ls hl => ?_)
  obtain ⟨u18, h22, hf⟩ := bd1E hf
  have E19 : ∀ (z29 : Nat → Int32), some z29 = some u18 → ∀ (H : Heap) (locs : List Loc), va_P D vwCl [(q_t, .inr (8, [.int t_there, .ref q_t_book, .ref q_t_now, .ref q_t_does, .ref q_t_bad, .ref q_t_likes, .int t_sights, .ref q_t_sight, .int t_signs, .ref q_t_pad, .ref q_t_then, .int t_worseAt, .int t_worseWho, .int t_hours, .ref q_t_ahead, .int t_reason, .int t_acts, .ref q_t_most, .ref q_t_worth, .ref q_t_damp, .ref q_t_next, .ref q_t_image, .ref q_t_isKept])), (q_t_book, .inl (G 0, 26, .inl t_book)), (q_t_now, .inl (G 0, 26, .inl z29))] H → va_D A [(q_t, .inr (8, [.int t_there, .ref q_t_book, .ref q_t_now, .ref q_t_does, .ref q_t_bad, .ref q_t_likes, .int t_sights, .ref q_t_sight, .int t_signs, .ref q_t_pad, .ref q_t_then, .int t_worseAt, .int t_worseWho, .int t_hours, .ref q_t_ahead, .int t_reason, .int t_acts, .ref q_t_most, .ref q_t_worth, .ref q_t_damp, .ref q_t_next, .ref q_t_image, .ref q_t_isKept])), (q_t_book, .inl (G 0, 26, .inl t_book)), (q_t_now, .inl (G 0, 26, .inl z29))] → va_S A s.heap H locs → ∀ ls : Array Slot, lv_has ls 2 [] → W p l e (kR 1 60) s m args below meth c H locs 0 0 Q (F0 m 26 ls []) := by
    intro z29 hy; obtain rfl := sm1 hy
    intro H locs hP hD hS ls hl
    exact RT _ hf _ _ _ H locs dX8_asNow_26 rkV hP hD hS
  have L20 : ∀ (k : Nat) (w16 : Int32) (w17 : Nat → Int32), fX8_asNow_2 t_book k w16 w17 = some u18 → ∀ (H : Heap) (locs : List Loc), va_P D vwCl [(q_t, .inr (8, [.int t_there, .ref q_t_book, .ref q_t_now, .ref q_t_does, .ref q_t_bad, .ref q_t_likes, .int t_sights, .ref q_t_sight, .int t_signs, .ref q_t_pad, .ref q_t_then, .int t_worseAt, .int t_worseWho, .int t_hours, .ref q_t_ahead, .int t_reason, .int t_acts, .ref q_t_most, .ref q_t_worth, .ref q_t_damp, .ref q_t_next, .ref q_t_image, .ref q_t_isKept])), (q_t_book, .inl (G 0, 26, .inl t_book)), (q_t_now, .inl (G 0, 26, .inl w17))] H → va_D A [(q_t, .inr (8, [.int t_there, .ref q_t_book, .ref q_t_now, .ref q_t_does, .ref q_t_bad, .ref q_t_likes, .int t_sights, .ref q_t_sight, .int t_signs, .ref q_t_pad, .ref q_t_then, .int t_worseAt, .int t_worseWho, .int t_hours, .ref q_t_ahead, .int t_reason, .int t_acts, .ref q_t_most, .ref q_t_worth, .ref q_t_damp, .ref q_t_next, .ref q_t_image, .ref q_t_isKept])), (q_t_book, .inl (G 0, 26, .inl t_book)), (q_t_now, .inl (G 0, 26, .inl w17))] → va_S A s.heap H locs → ∀ ls : Array Slot, lv_has ls 2 [(0, .ref q_t), (1, .int w16)] → W p l e (kR 1 60) s m args below meth c H locs 0 0 Q (F0 m 2 ls []) := by
    intro k; induction k with
    | zero => intro w16 w17 hf; exact nosome hf
    | succ k ih =>
      intro w16 w17 hf; rw [fX8_asNow_2] at hf
      intro H locs hP hD hS ls hl
      refine lv_iload_n hx hb dX8_asNow_2 rfl (lv_at hl 1 rfl) ?_
      refine lv_bipush (v := (26 : Int32)) hx hb dX8_asNow_3 (by decide) ?_
      refine lv_icmp_ge (tgt := 26) hx hb dX8_asNow_5 (by decide) (fun c25 => ?_) (fun c25 => ?_)
      · have hf := ifp c25 hf
        exact E19 _ hf H locs hP hD hS ls (lv_sub hl [] rfl)
      · have hf := ifn c25 hf
        refine lv_aload_n hx hb dX8_asNow_8 rfl (lv_at hl 0 rfl) ?_
        refine va_get (D := D) (ci := 8) (v := .ref q_t_now) (C := RX8) (T := TX8) (N := 23) hx hb hts inX8 hown hK hP 0 rfl rfl 2 (by decide) (hts _ lfX8_13) (fun _ h9 => h9) rfl dX8_asNow_9 ?_
        refine lv_iload_n hx hb dX8_asNow_12 rfl (lv_at hl 1 rfl) ?_
        refine lv_aload_n hx hb dX8_asNow_13 rfl (lv_at hl 0 rfl) ?_
        refine va_get (D := D) (ci := 8) (v := .ref q_t_book) (C := RX8) (T := TX8) (N := 23) hx hb hts inX8 hown hK hP 0 rfl rfl 1 (by decide) (hts _ lfX8_7) (fun _ h9 => h9) rfl dX8_asNow_14 ?_
        refine lv_iload_n hx hb dX8_asNow_17 rfl (lv_at hl 1 rfl) ?_
        obtain ⟨x26, ex26, ix26, hf⟩ := ldIE hf
        refine k_iald hx hb hK hP 1 0 rfl rfl ix26 ex26 dX8_asNow_18 ?_
        obtain ⟨g27, eg27, ig27, hf⟩ := stIE hf
        refine k_iast hx hb hK hP hD hS 2 0 rfl rfl ig27 eg27 dX8_asNow_19 (fun H locs hP hD hS => ?_)
        have hP : va_P D vwCl [(q_t, .inr (8, [.int t_there, .ref q_t_book, .ref q_t_now, .ref q_t_does, .ref q_t_bad, .ref q_t_likes, .int t_sights, .ref q_t_sight, .int t_signs, .ref q_t_pad, .ref q_t_then, .int t_worseAt, .int t_worseWho, .int t_hours, .ref q_t_ahead, .int t_reason, .int t_acts, .ref q_t_most, .ref q_t_worth, .ref q_t_damp, .ref q_t_next, .ref q_t_image, .ref q_t_isKept])), (q_t_book, .inl (G 0, 26, .inl t_book)), (q_t_now, .inl (G 0, 26, .inl g27))] H := hP
        have hD : va_D A [(q_t, .inr (8, [.int t_there, .ref q_t_book, .ref q_t_now, .ref q_t_does, .ref q_t_bad, .ref q_t_likes, .int t_sights, .ref q_t_sight, .int t_signs, .ref q_t_pad, .ref q_t_then, .int t_worseAt, .int t_worseWho, .int t_hours, .ref q_t_ahead, .int t_reason, .int t_acts, .ref q_t_most, .ref q_t_worth, .ref q_t_damp, .ref q_t_next, .ref q_t_image, .ref q_t_isKept])), (q_t_book, .inl (G 0, 26, .inl t_book)), (q_t_now, .inl (G 0, 26, .inl g27))] := hD
        obtain ⟨y28, ey28⟩ : ∃ y : Int32, y = w16 + (1 : Int32) := ⟨_, rfl⟩
        have hf := nmeU ey28 hf
        refine lv_iinc (v := y28) (lv' := [(1, .int y28), (0, .ref q_t)]) hx hb dX8_asNow_20 hl (k := 1) rfl (by rw [ey28]; rfl) (by decide) rfl (fun ls hl => ?_)
        refine lv_goto (tgt := 2) hx hb dX8_asNow_23 (by decide) ?_
        exact ih _ _ hf H locs hP hD hS ls (lv_sub hl [1, 0] rfl)
  exact L20 fu (0 : Int32) t_now h22 H locs hP hD hS ls (lv_sub hl [1, 0] rfl)
set_option maxHeartbeats 4000000 in
set_option maxRecDepth 100000 in
theorem kX8_has (l : Launch) (D : va_G) (G : Nat → ClassId) (v0 : Int32) (v1 : Int32) {r : Int32} (hf : fX8_has v0 v1 = some r) : rO l D G yX8_has cX8_has 2 (some .boolean) 1 60 [.int v0, .int v1] [] (some (.int r)) := by
  refine rO_of (by decide) (Nat.le_of_ble_eq_true rfl) ?_
  intro p e s m args below meth c Q hx hb hml hown hts hK hn hP RET ls hl
  have RT : ∀ (a0_ : Int32), some a0_ = some r → ∀ (pc : Nat) (ls : Array Slot) (ins : Instr), decode cX8_has pc = .ok (ins, 1) → rk (some .boolean) (some (.int a0_)) ins → W p l e (kR 1 60) s m args below meth c s.heap [] 0 0 Q (F0 m pc ls [.int a0_]) := by
    intro a0_ hy; obtain rfl := sm1 hy
    exact RET
  have hown : s.vm.findClass RX8 = some m.cls := hown
  have hl : lv_has ls 2 [(0, .int v0), (1, .int v1)] := hl
  clear RET
  rw [fX8_has] at hf
  refine lv_iload_n hx hb dX8_has_0 rfl (lv_at hl 0 rfl) ?_
  refine lv_iload_n hx hb dX8_has_1 rfl (lv_at hl 1 rfl) ?_
  refine lv_ishr hx hb dX8_has_2 ?_
  refine lv_iconst (v := (1 : Int32)) hx hb dX8_has_3 (by decide) ?_
  refine lv_iand hx hb dX8_has_4 ?_
  refine lv_iconst (v := (1 : Int32)) hx hb dX8_has_5 (by decide) ?_
  refine lv_icmp_ne (tgt := 13) hx hb dX8_has_6 (by decide) (fun c1 => ?_) (fun c1 => ?_)
  · have hf := ifn c1 hf
    refine lv_iconst (v := (0 : Int32)) hx hb dX8_has_13 (by decide) ?_
    exact RT _ hf _ _ _ dX8_has_14 (rkZ (Or.inl rfl))
  · have hf := ifp c1 hf
    refine lv_iconst (v := (1 : Int32)) hx hb dX8_has_9 (by decide) ?_
    refine lv_goto (tgt := 14) hx hb dX8_has_10 (by decide) ?_
    exact RT _ hf _ _ _ dX8_has_14 (rkZ (Or.inr rfl))
set_option maxHeartbeats 4000000 in
set_option maxRecDepth 100000 in
theorem kX8_illsOf (l : Launch) (D : va_G) (G : Nat → ClassId) (q_t q_t_book q_t_now q_t_does q_t_bad q_t_likes q_t_sight q_t_pad q_t_then q_t_ahead q_t_most q_t_worth q_t_damp q_t_next q_t_image q_t_isKept : Nat) (t_there : Int32) (t_sights : Int32) (t_signs : Int32) (t_worseAt : Int32) (t_worseWho : Int32) (t_hours : Int32) (t_reason : Int32) (t_acts : Int32) (t_now : Nat → Int32) (v1 : Int32) {r : Int32} (hf : fX8_illsOf t_now v1 = some r) : rO l D G yX8_illsOf cX8_illsOf 2 (some .int) 1 60 [.ref q_t, .int v1] [(q_t, .inr (8, [.int t_there, .ref q_t_book, .ref q_t_now, .ref q_t_does, .ref q_t_bad, .ref q_t_likes, .int t_sights, .ref q_t_sight, .int t_signs, .ref q_t_pad, .ref q_t_then, .int t_worseAt, .int t_worseWho, .int t_hours, .ref q_t_ahead, .int t_reason, .int t_acts, .ref q_t_most, .ref q_t_worth, .ref q_t_damp, .ref q_t_next, .ref q_t_image, .ref q_t_isKept])), (q_t_now, .inl (G 0, 26, .inl t_now))] (some (.int r)) := by
  refine rO_of (by decide) (Nat.le_of_ble_eq_true rfl) ?_
  intro p e s m args below meth c Q hx hb hml hown hts hK hn hP RET ls hl
  have RT : ∀ (a0_ : Int32), some a0_ = some r → ∀ (pc : Nat) (ls : Array Slot) (ins : Instr), decode cX8_illsOf pc = .ok (ins, 1) → rk (some .int) (some (.int a0_)) ins → W p l e (kR 1 60) s m args below meth c s.heap [] 0 0 Q (F0 m pc ls [.int a0_]) := by
    intro a0_ hy; obtain rfl := sm1 hy
    exact RET
  have hown : s.vm.findClass RX8 = some m.cls := hown
  have hl : lv_has ls 2 [(0, .ref q_t), (1, .int v1)] := hl
  clear RET
  rw [fX8_illsOf] at hf
  refine lv_aload_n hx hb dX8_illsOf_0 rfl (lv_at hl 0 rfl) ?_
  refine va_get (D := D) (ci := 8) (v := .ref q_t_now) (C := RX8) (T := TX8) (N := 23) hx hb hts inX8 hown hK hP 0 rfl rfl 2 (by decide) (hts _ lfX8_13) (fun _ h9 => h9) rfl dX8_illsOf_1 ?_
  refine lv_iconst (v := (3 : Int32)) hx hb dX8_illsOf_4 (by decide) ?_
  refine lv_iload_n hx hb dX8_illsOf_5 rfl (lv_at hl 1 rfl) ?_
  refine lv_imul hx hb dX8_illsOf_6 ?_
  obtain ⟨x1, ex1, ix1, hf⟩ := ldIE hf
  refine k_iald hx hb hK hP 1 0 rfl rfl ix1 ex1 dX8_illsOf_7 ?_
  refine lv_aload_n hx hb dX8_illsOf_8 rfl (lv_at hl 0 rfl) ?_
  refine va_get (D := D) (ci := 8) (v := .ref q_t_now) (C := RX8) (T := TX8) (N := 23) hx hb hts inX8 hown hK hP 0 rfl rfl 2 (by decide) (hts _ lfX8_13) (fun _ h9 => h9) rfl dX8_illsOf_9 ?_
  refine lv_iconst (v := (3 : Int32)) hx hb dX8_illsOf_12 (by decide) ?_
  refine lv_iload_n hx hb dX8_illsOf_13 rfl (lv_at hl 1 rfl) ?_
  refine lv_imul hx hb dX8_illsOf_14 ?_
  refine lv_iconst (v := (1 : Int32)) hx hb dX8_illsOf_15 (by decide) ?_
  refine lv_iadd hx hb dX8_illsOf_16 ?_
  obtain ⟨x2, ex2, ix2, hf⟩ := ldIE hf
  refine k_iald hx hb hK hP 1 0 rfl rfl ix2 ex2 dX8_illsOf_17 ?_
  refine lv_iadd hx hb dX8_illsOf_18 ?_
  refine lv_aload_n hx hb dX8_illsOf_19 rfl (lv_at hl 0 rfl) ?_
  refine va_get (D := D) (ci := 8) (v := .ref q_t_now) (C := RX8) (T := TX8) (N := 23) hx hb hts inX8 hown hK hP 0 rfl rfl 2 (by decide) (hts _ lfX8_13) (fun _ h9 => h9) rfl dX8_illsOf_20 ?_
  refine lv_iconst (v := (3 : Int32)) hx hb dX8_illsOf_23 (by decide) ?_
  refine lv_iload_n hx hb dX8_illsOf_24 rfl (lv_at hl 1 rfl) ?_
  refine lv_imul hx hb dX8_illsOf_25 ?_
  refine lv_iconst (v := (2 : Int32)) hx hb dX8_illsOf_26 (by decide) ?_
  refine lv_iadd hx hb dX8_illsOf_27 ?_
  obtain ⟨x3, ex3, ix3, hf⟩ := ldIE hf
  refine k_iald hx hb hK hP 1 0 rfl rfl ix3 ex3 dX8_illsOf_28 ?_
  refine lv_iadd hx hb dX8_illsOf_29 ?_
  exact RT _ hf _ _ _ dX8_illsOf_30 (rkI _)
set_option maxHeartbeats 4000000 in
set_option maxRecDepth 100000 in
theorem kX8_clip (l : Launch) (D : va_G) (G : Nat → ClassId) (v0 : Int32) {r : Int32} (hf : fX8_clip v0 = some r) : rO l D G yX8_clip cX8_clip 1 (some .int) 1 60 [.int v0] [] (some (.int r)) := by
  refine rO_of (by decide) (Nat.le_of_ble_eq_true rfl) ?_
  intro p e s m args below meth c Q hx hb hml hown hts hK hn hP RET ls hl
  have RT : ∀ (a0_ : Int32), some a0_ = some r → ∀ (pc : Nat) (ls : Array Slot) (ins : Instr), decode cX8_clip pc = .ok (ins, 1) → rk (some .int) (some (.int a0_)) ins → W p l e (kR 1 60) s m args below meth c s.heap [] 0 0 Q (F0 m pc ls [.int a0_]) := by
    intro a0_ hy; obtain rfl := sm1 hy
    exact RET
  have hown : s.vm.findClass RX8 = some m.cls := hown
  have hl : lv_has ls 1 [(0, .int v0)] := hl
  clear RET
  rw [fX8_clip] at hf
  refine lv_iload_n hx hb dX8_clip_0 rfl (lv_at hl 0 rfl) ?_
  refine lv_if_ge (tgt := 8) hx hb dX8_clip_1 (by decide) (fun c1 => ?_) (fun c1 => ?_)
  · have hf := ifp c1 hf
    refine lv_iload_n hx hb dX8_clip_8 rfl (lv_at hl 0 rfl) ?_
    refine lv_bipush (v := (20 : Int32)) hx hb dX8_clip_9 (by decide) ?_
    refine lv_icmp_le (tgt := 19) hx hb dX8_clip_11 (by decide) (fun c2 => ?_) (fun c2 => ?_)
    · have hf := ifp c2 hf
      refine lv_iload_n hx hb dX8_clip_19 rfl (lv_at hl 0 rfl) ?_
      exact RT _ hf _ _ _ dX8_clip_20 (rkI _)
    · have hf := ifn c2 hf
      refine lv_bipush (v := (20 : Int32)) hx hb dX8_clip_14 (by decide) ?_
      refine lv_goto (tgt := 20) hx hb dX8_clip_16 (by decide) ?_
      exact RT _ hf _ _ _ dX8_clip_20 (rkI _)
  · have hf := ifn c1 hf
    refine lv_iconst (v := (0 : Int32)) hx hb dX8_clip_4 (by decide) ?_
    refine lv_goto (tgt := 20) hx hb dX8_clip_5 (by decide) ?_
    exact RT _ hf _ _ _ dX8_clip_20 (rkI _)
