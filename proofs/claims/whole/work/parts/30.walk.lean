set_option maxHeartbeats 4000000 in
set_option maxRecDepth 100000 in
theorem kX8_walk (l : Launch) (D : va_G) (G : Nat → ClassId) (q_t q_t_book q_t_now q_t_does q_t_bad q_t_likes q_t_sight q_t_pad q_t_then q_t_ahead q_t_most q_t_worth q_t_damp q_t_next q_t_image q_t_isKept : Nat) (t_there : Int32) (t_sights : Int32) (t_signs : Int32) (t_worseAt : Int32) (t_worseWho : Int32) (t_hours : Int32) (t_reason : Int32) (t_acts : Int32) (t_now : Nat → Int32) (v1 : Int32) (v2 : Int32) {r : Int32} {o_t_now : Nat → Int32} (hf : fX8_walk t_there t_now v1 v2 = some (r, o_t_now)) : rW l D G yX8_walk cX8_walk 3 (some .int) 3 103 [.ref q_t, .int v1, .int v2] [(q_t, .inr (8, [.int t_there, .ref q_t_book, .ref q_t_now, .ref q_t_does, .ref q_t_bad, .ref q_t_likes, .int t_sights, .ref q_t_sight, .int t_signs, .ref q_t_pad, .ref q_t_then, .int t_worseAt, .int t_worseWho, .int t_hours, .ref q_t_ahead, .int t_reason, .int t_acts, .ref q_t_most, .ref q_t_worth, .ref q_t_damp, .ref q_t_next, .ref q_t_image, .ref q_t_isKept])), (q_t_now, .inl (G 0, 26, .inl t_now))] [(q_t, .inr (8, [.int t_there, .ref q_t_book, .ref q_t_now, .ref q_t_does, .ref q_t_bad, .ref q_t_likes, .int t_sights, .ref q_t_sight, .int t_signs, .ref q_t_pad, .ref q_t_then, .int t_worseAt, .int t_worseWho, .int t_hours, .ref q_t_ahead, .int t_reason, .int t_acts, .ref q_t_most, .ref q_t_worth, .ref q_t_damp, .ref q_t_next, .ref q_t_image, .ref q_t_isKept])), (q_t_now, .inl (G 0, 26, .inl o_t_now))] (some (.int r)) := by
  refine rW_of (by decide) (Nat.le_of_ble_eq_true rfl) ?_
  intro p e s m args below meth c Q A hx hb hml hown hts hK hn hA RET H locs hP hD hS ls hl
  have RT : ∀ (a0_ : Int32) (a1_ : Nat → Int32), some (a0_, a1_) = some (r, o_t_now) → ∀ (pc : Nat) (ls : Array Slot) (ins : Instr) (H : Heap) (locs : List Loc), decode cX8_walk pc = .ok (ins, 1) → rk (some .int) (some (.int a0_)) ins → va_P D vwCl [(q_t, .inr (8, [.int t_there, .ref q_t_book, .ref q_t_now, .ref q_t_does, .ref q_t_bad, .ref q_t_likes, .int t_sights, .ref q_t_sight, .int t_signs, .ref q_t_pad, .ref q_t_then, .int t_worseAt, .int t_worseWho, .int t_hours, .ref q_t_ahead, .int t_reason, .int t_acts, .ref q_t_most, .ref q_t_worth, .ref q_t_damp, .ref q_t_next, .ref q_t_image, .ref q_t_isKept])), (q_t_now, .inl (G 0, 26, .inl a1_))] H → va_D A [(q_t, .inr (8, [.int t_there, .ref q_t_book, .ref q_t_now, .ref q_t_does, .ref q_t_bad, .ref q_t_likes, .int t_sights, .ref q_t_sight, .int t_signs, .ref q_t_pad, .ref q_t_then, .int t_worseAt, .int t_worseWho, .int t_hours, .ref q_t_ahead, .int t_reason, .int t_acts, .ref q_t_most, .ref q_t_worth, .ref q_t_damp, .ref q_t_next, .ref q_t_image, .ref q_t_isKept])), (q_t_now, .inl (G 0, 26, .inl a1_))] → va_S A s.heap H locs → W p l e (kR 3 103) s m args below meth c H locs 0 0 Q (F0 m pc ls [.int a0_]) := by
    intro a0_ a1_ hy; obtain ⟨rfl, rfl⟩ := sm2 hy
    exact RET
  have hown : s.vm.findClass RX8 = some m.cls := hown
  have hl : lv_has ls 3 [(0, .ref q_t), (1, .int v1), (2, .int v2)] := hl
  clear RET
  rw [fX8_walk] at hf
  refine lv_aload_n hx hb dX8_walk_0 rfl (lv_at hl 0 rfl) ?_
  refine lv_iload_n hx hb dX8_walk_1 rfl (lv_at hl 1 rfl) ?_
  obtain ⟨r1, h2, hf⟩ := bd1E hf
  refine kO_virt hx hb hml hown hts hK hn hP (kX8_isThere l D G q_t q_t_book q_t_now q_t_does q_t_bad q_t_likes q_t_sight q_t_pad q_t_then q_t_ahead q_t_most q_t_worth q_t_damp q_t_next q_t_image q_t_isKept t_there t_sights t_signs t_worseAt t_worseWho t_hours t_reason t_acts v1 h2) cvX8_73 ⟨Nat.le_of_ble_eq_true rfl, Nat.le_of_ble_eq_true rfl⟩ [0] rfl 0 rfl rfl rfl hl.1 rfl (Nat.le_of_ble_eq_true rfl) ⟨Nat.zero_le _, Nat.zero_le _⟩ dX8_walk_2 ?_
  refine lv_if_ne (tgt := 10) hx hb dX8_walk_5 (by decide) (fun c3 => ?_) (fun c3 => ?_)
  · have hf := ifn c3 hf
    refine lv_aload_n hx hb dX8_walk_10 rfl (lv_at hl 0 rfl) ?_
    refine va_get (D := D) (ci := 8) (v := .ref q_t_now) (C := RX8) (T := TX8) (N := 23) hx hb hts inX8 hown hK hP 0 rfl rfl 2 (by decide) (hts _ lfX8_13) (fun _ h9 => h9) rfl dX8_walk_11 ?_
    refine lv_bipush (v := (18 : Int32)) hx hb dX8_walk_14 (by decide) ?_
    refine lv_iload_n hx hb dX8_walk_16 rfl (lv_at hl 1 rfl) ?_
    refine lv_iadd hx hb dX8_walk_17 ?_
    obtain ⟨x4, ex4, ix4, hf⟩ := ldIE hf
    refine k_iald hx hb hK hP 1 0 rfl rfl ix4 ex4 dX8_walk_18 ?_
    refine lv_iload_n hx hb dX8_walk_19 rfl (lv_at hl 2 rfl) ?_
    refine lv_icmp_ne (tgt := 25) hx hb dX8_walk_20 (by decide) (fun c5 => ?_) (fun c5 => ?_)
    · have hf := ifn c5 hf
      refine lv_aload_n hx hb dX8_walk_25 rfl (lv_at hl 0 rfl) ?_
      refine va_get (D := D) (ci := 8) (v := .ref q_t_now) (C := RX8) (T := TX8) (N := 23) hx hb hts inX8 hown hK hP 0 rfl rfl 2 (by decide) (hts _ lfX8_13) (fun _ h9 => h9) rfl dX8_walk_26 ?_
      refine lv_bipush (v := (24 : Int32)) hx hb dX8_walk_29 (by decide) ?_
      obtain ⟨x6, ex6, ix6, hf⟩ := ldIE hf
      refine k_iald hx hb hK hP 1 0 rfl rfl ix6 ex6 dX8_walk_31 ?_
      refine lv_iload_n hx hb dX8_walk_32 rfl (lv_at hl 1 rfl) ?_
      obtain ⟨r7, h8, hf⟩ := bd1E hf
      refine kO_stat hx hb hml hown hts hK hn hP (kX8_has l D G x6 v1 h8) csX8_65 ⟨Nat.le_of_ble_eq_true rfl, Nat.le_of_ble_eq_true rfl⟩ [] rfl rfl hl.1 rfl (Nat.le_of_ble_eq_true rfl) ⟨Nat.zero_le _, Nat.zero_le _⟩ dX8_walk_33 ?_
      refine lv_if_eq (tgt := 41) hx hb dX8_walk_36 (by decide) (fun c9 => ?_) (fun c9 => ?_)
      · have hf := ifp c9 hf
        refine lv_aload_n hx hb dX8_walk_41 rfl (lv_at hl 0 rfl) ?_
        refine va_get (D := D) (ci := 8) (v := .ref q_t_now) (C := RX8) (T := TX8) (N := 23) hx hb hts inX8 hown hK hP 0 rfl rfl 2 (by decide) (hts _ lfX8_13) (fun _ h9 => h9) rfl dX8_walk_42 ?_
        refine lv_bipush (v := (18 : Int32)) hx hb dX8_walk_45 (by decide) ?_
        refine lv_iload_n hx hb dX8_walk_47 rfl (lv_at hl 1 rfl) ?_
        refine lv_iadd hx hb dX8_walk_48 ?_
        refine lv_iload_n hx hb dX8_walk_49 rfl (lv_at hl 2 rfl) ?_
        obtain ⟨g10, eg10, ig10, hf⟩ := stIE hf
        refine k_iast hx hb hK hP hD hS 1 0 rfl rfl ig10 eg10 dX8_walk_50 (fun H locs hP hD hS => ?_)
        have hP : va_P D vwCl [(q_t, .inr (8, [.int t_there, .ref q_t_book, .ref q_t_now, .ref q_t_does, .ref q_t_bad, .ref q_t_likes, .int t_sights, .ref q_t_sight, .int t_signs, .ref q_t_pad, .ref q_t_then, .int t_worseAt, .int t_worseWho, .int t_hours, .ref q_t_ahead, .int t_reason, .int t_acts, .ref q_t_most, .ref q_t_worth, .ref q_t_damp, .ref q_t_next, .ref q_t_image, .ref q_t_isKept])), (q_t_now, .inl (G 0, 26, .inl g10))] H := hP
        have hD : va_D A [(q_t, .inr (8, [.int t_there, .ref q_t_book, .ref q_t_now, .ref q_t_does, .ref q_t_bad, .ref q_t_likes, .int t_sights, .ref q_t_sight, .int t_signs, .ref q_t_pad, .ref q_t_then, .int t_worseAt, .int t_worseWho, .int t_hours, .ref q_t_ahead, .int t_reason, .int t_acts, .ref q_t_most, .ref q_t_worth, .ref q_t_damp, .ref q_t_next, .ref q_t_image, .ref q_t_isKept])), (q_t_now, .inl (G 0, 26, .inl g10))] := hD
        refine lv_iconst (v := (0 : Int32)) hx hb dX8_walk_51 (by decide) ?_
        exact RT _ _ hf _ _ _ H locs dX8_walk_52 (rkI _) hP hD hS
      · have hf := ifn c9 hf
        refine lv_iconst (v := (3 : Int32)) hx hb dX8_walk_39 (by decide) ?_
        exact RT _ _ hf _ _ _ H locs dX8_walk_40 (rkI _) hP hD hS
    · have hf := ifp c5 hf
      refine lv_iconst (v := (2 : Int32)) hx hb dX8_walk_23 (by decide) ?_
      exact RT _ _ hf _ _ _ H locs dX8_walk_24 (rkI _) hP hD hS
  · have hf := ifp c3 hf
    refine lv_iconst (v := (1 : Int32)) hx hb dX8_walk_8 (by decide) ?_
    exact RT _ _ hf _ _ _ H locs dX8_walk_9 (rkI _) hP hD hS
set_option maxHeartbeats 4000000 in
set_option maxRecDepth 100000 in
theorem kX8_goCures (l : Launch) (D : va_G) (G : Nat → ClassId) (fu : Nat) (q_t q_t_book q_t_now q_t_does q_t_bad q_t_likes q_t_sight q_t_pad q_t_then q_t_ahead q_t_most q_t_worth q_t_damp q_t_next q_t_image q_t_isKept : Nat) (t_there : Int32) (t_sights : Int32) (t_signs : Int32) (t_worseAt : Int32) (t_worseWho : Int32) (t_hours : Int32) (t_reason : Int32) (t_acts : Int32) (t_book : Nat → Int32) (t_now : Nat → Int32) (t_does : Nat → Int32) (t_bad : Nat → Int32) (t_pad : Nat → Int32) (t_then : Nat → Int32) (t_ahead : Nat → Int32) {r : Int32} {o_t_worseAt : Int32} {o_t_worseWho : Int32} {o_t_hours : Int32} {o_t_reason : Int32} {o_t_acts : Int32} {o_t_now : Nat → Int32} {o_t_then : Nat → Int32} {o_t_ahead : Nat → Int32} (hf : fX8_goCures fu t_there t_signs t_worseAt t_worseWho t_hours t_reason t_acts t_book t_now t_does t_bad t_pad t_then t_ahead = some (r, o_t_worseAt, o_t_worseWho, o_t_hours, o_t_reason, o_t_acts, o_t_now, o_t_then, o_t_ahead)) : rW l D G yX8_goCures cX8_goCures 3 (some .int) 4 127 [.ref q_t] [(q_t, .inr (8, [.int t_there, .ref q_t_book, .ref q_t_now, .ref q_t_does, .ref q_t_bad, .ref q_t_likes, .int t_sights, .ref q_t_sight, .int t_signs, .ref q_t_pad, .ref q_t_then, .int t_worseAt, .int t_worseWho, .int t_hours, .ref q_t_ahead, .int t_reason, .int t_acts, .ref q_t_most, .ref q_t_worth, .ref q_t_damp, .ref q_t_next, .ref q_t_image, .ref q_t_isKept])), (q_t_book, .inl (G 0, 26, .inl t_book)), (q_t_now, .inl (G 0, 26, .inl t_now)), (q_t_does, .inl (G 0, 12, .inl t_does)), (q_t_bad, .inl (G 0, 36, .inl t_bad)), (q_t_pad, .inl (G 0, 60, .inl t_pad)), (q_t_then, .inl (G 0, 18, .inl t_then)), (q_t_ahead, .inl (G 0, 6, .inl t_ahead))] [(q_t, .inr (8, [.int t_there, .ref q_t_book, .ref q_t_now, .ref q_t_does, .ref q_t_bad, .ref q_t_likes, .int t_sights, .ref q_t_sight, .int t_signs, .ref q_t_pad, .ref q_t_then, .int o_t_worseAt, .int o_t_worseWho, .int o_t_hours, .ref q_t_ahead, .int o_t_reason, .int o_t_acts, .ref q_t_most, .ref q_t_worth, .ref q_t_damp, .ref q_t_next, .ref q_t_image, .ref q_t_isKept])), (q_t_book, .inl (G 0, 26, .inl t_book)), (q_t_now, .inl (G 0, 26, .inl o_t_now)), (q_t_does, .inl (G 0, 12, .inl t_does)), (q_t_bad, .inl (G 0, 36, .inl t_bad)), (q_t_pad, .inl (G 0, 60, .inl t_pad)), (q_t_then, .inl (G 0, 18, .inl o_t_then)), (q_t_ahead, .inl (G 0, 6, .inl o_t_ahead))] (some (.int r)) := by
  refine rW_of (by decide) (Nat.le_of_ble_eq_true rfl) ?_
  intro p e s m args below meth c Q A hx hb hml hown hts hK hn hA RET H locs hP hD hS ls hl
  have RT : ∀ (a0_ : Int32) (a1_ : Int32) (a2_ : Int32) (a3_ : Int32) (a4_ : Int32) (a5_ : Int32) (a6_ : Nat → Int32) (a7_ : Nat → Int32) (a8_ : Nat → Int32), some (a0_, a1_, a2_, a3_, a4_, a5_, a6_, a7_, a8_) = some (r, o_t_worseAt, o_t_worseWho, o_t_hours, o_t_reason, o_t_acts, o_t_now, o_t_then, o_t_ahead) → ∀ (pc : Nat) (ls : Array Slot) (ins : Instr) (H : Heap) (locs : List Loc), decode cX8_goCures pc = .ok (ins, 1) → rk (some .int) (some (.int a0_)) ins → va_P D vwCl [(q_t, .inr (8, [.int t_there, .ref q_t_book, .ref q_t_now, .ref q_t_does, .ref q_t_bad, .ref q_t_likes, .int t_sights, .ref q_t_sight, .int t_signs, .ref q_t_pad, .ref q_t_then, .int a1_, .int a2_, .int a3_, .ref q_t_ahead, .int a4_, .int a5_, .ref q_t_most, .ref q_t_worth, .ref q_t_damp, .ref q_t_next, .ref q_t_image, .ref q_t_isKept])), (q_t_book, .inl (G 0, 26, .inl t_book)), (q_t_now, .inl (G 0, 26, .inl a6_)), (q_t_does, .inl (G 0, 12, .inl t_does)), (q_t_bad, .inl (G 0, 36, .inl t_bad)), (q_t_pad, .inl (G 0, 60, .inl t_pad)), (q_t_then, .inl (G 0, 18, .inl a7_)), (q_t_ahead, .inl (G 0, 6, .inl a8_))] H → va_D A [(q_t, .inr (8, [.int t_there, .ref q_t_book, .ref q_t_now, .ref q_t_does, .ref q_t_bad, .ref q_t_likes, .int t_sights, .ref q_t_sight, .int t_signs, .ref q_t_pad, .ref q_t_then, .int a1_, .int a2_, .int a3_, .ref q_t_ahead, .int a4_, .int a5_, .ref q_t_most, .ref q_t_worth, .ref q_t_damp, .ref q_t_next, .ref q_t_image, .ref q_t_isKept])), (q_t_book, .inl (G 0, 26, .inl t_book)), (q_t_now, .inl (G 0, 26, .inl a6_)), (q_t_does, .inl (G 0, 12, .inl t_does)), (q_t_bad, .inl (G 0, 36, .inl t_bad)), (q_t_pad, .inl (G 0, 60, .inl t_pad)), (q_t_then, .inl (G 0, 18, .inl a7_)), (q_t_ahead, .inl (G 0, 6, .inl a8_))] → va_S A s.heap H locs → W p l e (kR 4 127) s m args below meth c H locs 0 0 Q (F0 m pc ls [.int a0_]) := by
    intro a0_ a1_ a2_ a3_ a4_ a5_ a6_ a7_ a8_ hy; obtain ⟨rfl, rfl, rfl, rfl, rfl, rfl, rfl, rfl, rfl⟩ := sm9 hy
    exact RET
  have hown : s.vm.findClass RX8 = some m.cls := hown
  have hl : lv_has ls 3 [(0, .ref q_t)] := hl
  clear RET
  rw [fX8_goCures] at hf
  refine lv_aload_n hx hb dX8_goCures_0 rfl (lv_at hl 0 rfl) ?_
  obtain ⟨o1, o2, o3, o4, h5, hf⟩ := bd4E hf
  refine kW_virt0 hx hb hml hown hts hK hn hA hP hD hS (kX8_begin l D G fu q_t q_t_book q_t_now q_t_does q_t_bad q_t_likes q_t_sight q_t_pad q_t_then q_t_ahead q_t_most q_t_worth q_t_damp q_t_next q_t_image q_t_isKept t_there t_sights t_signs t_worseAt t_worseWho t_hours t_reason t_acts t_book t_now h5) cvX8_108 ⟨Nat.le_of_ble_eq_true rfl, Nat.le_of_ble_eq_true rfl⟩ [0, 1, 2] rfl rfl [true, true, true] rfl (w3 := [(q_t, .inr (8, [.int t_there, .ref q_t_book, .ref q_t_now, .ref q_t_does, .ref q_t_bad, .ref q_t_likes, .int t_sights, .ref q_t_sight, .int t_signs, .ref q_t_pad, .ref q_t_then, .int o1, .int o2, .int o3, .ref q_t_ahead, .int t_reason, .int t_acts, .ref q_t_most, .ref q_t_worth, .ref q_t_damp, .ref q_t_next, .ref q_t_image, .ref q_t_isKept])), (q_t_book, .inl (G 0, 26, .inl t_book)), (q_t_now, .inl (G 0, 26, .inl o4))]) [0, 1, 2] rfl rfl 0 rfl rfl rfl hl.1 rfl (Nat.le_of_ble_eq_true rfl) ⟨Nat.zero_le _, Nat.zero_le _⟩ dX8_goCures_1 (fun H locs hP hD hS => ?_)
  have hP : va_P D vwCl [(q_t, .inr (8, [.int t_there, .ref q_t_book, .ref q_t_now, .ref q_t_does, .ref q_t_bad, .ref q_t_likes, .int t_sights, .ref q_t_sight, .int t_signs, .ref q_t_pad, .ref q_t_then, .int o1, .int o2, .int o3, .ref q_t_ahead, .int t_reason, .int t_acts, .ref q_t_most, .ref q_t_worth, .ref q_t_damp, .ref q_t_next, .ref q_t_image, .ref q_t_isKept])), (q_t_book, .inl (G 0, 26, .inl t_book)), (q_t_now, .inl (G 0, 26, .inl o4)), (q_t_does, .inl (G 0, 12, .inl t_does)), (q_t_bad, .inl (G 0, 36, .inl t_bad)), (q_t_pad, .inl (G 0, 60, .inl t_pad)), (q_t_then, .inl (G 0, 18, .inl t_then)), (q_t_ahead, .inl (G 0, 6, .inl t_ahead))] H := hP
  have hD : va_D A [(q_t, .inr (8, [.int t_there, .ref q_t_book, .ref q_t_now, .ref q_t_does, .ref q_t_bad, .ref q_t_likes, .int t_sights, .ref q_t_sight, .int t_signs, .ref q_t_pad, .ref q_t_then, .int o1, .int o2, .int o3, .ref q_t_ahead, .int t_reason, .int t_acts, .ref q_t_most, .ref q_t_worth, .ref q_t_damp, .ref q_t_next, .ref q_t_image, .ref q_t_isKept])), (q_t_book, .inl (G 0, 26, .inl t_book)), (q_t_now, .inl (G 0, 26, .inl o4)), (q_t_does, .inl (G 0, 12, .inl t_does)), (q_t_bad, .inl (G 0, 36, .inl t_bad)), (q_t_pad, .inl (G 0, 60, .inl t_pad)), (q_t_then, .inl (G 0, 18, .inl t_then)), (q_t_ahead, .inl (G 0, 6, .inl t_ahead))] := hD
  refine lv_aload_n hx hb dX8_goCures_4 rfl (lv_at hl 0 rfl) ?_
  refine lv_iconst (v := (0 : Int32)) hx hb dX8_goCures_5 (by decide) ?_
  refine va_put (D := D) (ci := 8) (v := .int (0 : Int32)) (ty := .int) (C := RX8) (T := TX8) (N := 23) hx hb hts inX8 tyX8 tyX8_ok nmX8 hown hK hP hD hS 0 rfl rfl 16 (by decide) (hts _ lfX8_111) (fun _ h9 => h9) rfl (tyX8_ok 16 (by decide)) rfl rfl (Nat.le_of_ble_eq_true rfl) dX8_goCures_6 (fun H locs hP hD hS => ?_)
  have hP : va_P D vwCl [(q_t, .inr (8, [.int t_there, .ref q_t_book, .ref q_t_now, .ref q_t_does, .ref q_t_bad, .ref q_t_likes, .int t_sights, .ref q_t_sight, .int t_signs, .ref q_t_pad, .ref q_t_then, .int o1, .int o2, .int o3, .ref q_t_ahead, .int t_reason, .int (0 : Int32), .ref q_t_most, .ref q_t_worth, .ref q_t_damp, .ref q_t_next, .ref q_t_image, .ref q_t_isKept])), (q_t_book, .inl (G 0, 26, .inl t_book)), (q_t_now, .inl (G 0, 26, .inl o4)), (q_t_does, .inl (G 0, 12, .inl t_does)), (q_t_bad, .inl (G 0, 36, .inl t_bad)), (q_t_pad, .inl (G 0, 60, .inl t_pad)), (q_t_then, .inl (G 0, 18, .inl t_then)), (q_t_ahead, .inl (G 0, 6, .inl t_ahead))] H := hP
  have hD : va_D A [(q_t, .inr (8, [.int t_there, .ref q_t_book, .ref q_t_now, .ref q_t_does, .ref q_t_bad, .ref q_t_likes, .int t_sights, .ref q_t_sight, .int t_signs, .ref q_t_pad, .ref q_t_then, .int o1, .int o2, .int o3, .ref q_t_ahead, .int t_reason, .int (0 : Int32), .ref q_t_most, .ref q_t_worth, .ref q_t_damp, .ref q_t_next, .ref q_t_image, .ref q_t_isKept])), (q_t_book, .inl (G 0, 26, .inl t_book)), (q_t_now, .inl (G 0, 26, .inl o4)), (q_t_does, .inl (G 0, 12, .inl t_does)), (q_t_bad, .inl (G 0, 36, .inl t_bad)), (q_t_pad, .inl (G 0, 60, .inl t_pad)), (q_t_then, .inl (G 0, 18, .inl t_then)), (q_t_ahead, .inl (G 0, 6, .inl t_ahead))] := hD
  refine lv_iconst (v := (0 : Int32)) hx hb dX8_goCures_9 (by decide) ?_
  refine lv_istore_n (lv' := [(1, .int (0 : Int32)), (0, .ref q_t)]) hx hb dX8_goCures_10 rfl hl (by decide) rfl (fun ls hl => ?_)
  obtain ⟨z135, h136, hr137, hc138⟩ := br8E hf
  have E133 : ∀ (z233 : Int32) (z234 : Int32) (z235 : Int32) (z236 : Int32) (z237 : Int32) (z238 : Nat → Int32) (z239 : Nat → Int32) (z240 : Nat → Int32), some (Sum.inr (z233, z234, z235, z236, z237, z238, z239, z240)) = some z135 → ∀ (H : Heap) (locs : List Loc), va_P D vwCl [(q_t, .inr (8, [.int t_there, .ref q_t_book, .ref q_t_now, .ref q_t_does, .ref q_t_bad, .ref q_t_likes, .int t_sights, .ref q_t_sight, .int t_signs, .ref q_t_pad, .ref q_t_then, .int z233, .int z234, .int z235, .ref q_t_ahead, .int z236, .int z237, .ref q_t_most, .ref q_t_worth, .ref q_t_damp, .ref q_t_next, .ref q_t_image, .ref q_t_isKept])), (q_t_book, .inl (G 0, 26, .inl t_book)), (q_t_now, .inl (G 0, 26, .inl z238)), (q_t_does, .inl (G 0, 12, .inl t_does)), (q_t_bad, .inl (G 0, 36, .inl t_bad)), (q_t_pad, .inl (G 0, 60, .inl t_pad)), (q_t_then, .inl (G 0, 18, .inl z239)), (q_t_ahead, .inl (G 0, 6, .inl z240))] H → va_D A [(q_t, .inr (8, [.int t_there, .ref q_t_book, .ref q_t_now, .ref q_t_does, .ref q_t_bad, .ref q_t_likes, .int t_sights, .ref q_t_sight, .int t_signs, .ref q_t_pad, .ref q_t_then, .int z233, .int z234, .int z235, .ref q_t_ahead, .int z236, .int z237, .ref q_t_most, .ref q_t_worth, .ref q_t_damp, .ref q_t_next, .ref q_t_image, .ref q_t_isKept])), (q_t_book, .inl (G 0, 26, .inl t_book)), (q_t_now, .inl (G 0, 26, .inl z238)), (q_t_does, .inl (G 0, 12, .inl t_does)), (q_t_bad, .inl (G 0, 36, .inl t_bad)), (q_t_pad, .inl (G 0, 60, .inl t_pad)), (q_t_then, .inl (G 0, 18, .inl z239)), (q_t_ahead, .inl (G 0, 6, .inl z240))] → va_S A s.heap H locs → ∀ ls : Array Slot, lv_has ls 3 [] → W p l e (kR 4 127) s m args below meth c H locs 0 0 Q (F0 m 123 ls []) := by
    intro z233 z234 z235 z236 z237 z238 z239 z240 hy; have hf := hc138 z233 z234 z235 z236 z237 z238 z239 z240 hy
    intro H locs hP hD hS ls hl
    refine lv_bipush (v := (-6 : Int32)) hx hb dX8_goCures_123 (by decide) ?_
    exact RT _ _ _ _ _ _ _ _ _ hf _ _ _ H locs dX8_goCures_125 (rkI _) hP hD hS
  have L134 : ∀ (k : Nat) (w116 : Int32) (w117 : Int32) (w118 : Int32) (w119 : Int32) (w120 : Int32) (w121 : Int32) (w122 : Nat → Int32) (w123 : Nat → Int32) (w124 : Nat → Int32), fX8_goCures_11 fu t_signs t_pad t_there t_does t_bad k w116 w117 w118 w119 w120 w121 w122 w123 w124 = some z135 → ∀ (H : Heap) (locs : List Loc), va_P D vwCl [(q_t, .inr (8, [.int t_there, .ref q_t_book, .ref q_t_now, .ref q_t_does, .ref q_t_bad, .ref q_t_likes, .int t_sights, .ref q_t_sight, .int t_signs, .ref q_t_pad, .ref q_t_then, .int w117, .int w118, .int w119, .ref q_t_ahead, .int w120, .int w121, .ref q_t_most, .ref q_t_worth, .ref q_t_damp, .ref q_t_next, .ref q_t_image, .ref q_t_isKept])), (q_t_book, .inl (G 0, 26, .inl t_book)), (q_t_now, .inl (G 0, 26, .inl w122)), (q_t_does, .inl (G 0, 12, .inl t_does)), (q_t_bad, .inl (G 0, 36, .inl t_bad)), (q_t_pad, .inl (G 0, 60, .inl t_pad)), (q_t_then, .inl (G 0, 18, .inl w123)), (q_t_ahead, .inl (G 0, 6, .inl w124))] H → va_D A [(q_t, .inr (8, [.int t_there, .ref q_t_book, .ref q_t_now, .ref q_t_does, .ref q_t_bad, .ref q_t_likes, .int t_sights, .ref q_t_sight, .int t_signs, .ref q_t_pad, .ref q_t_then, .int w117, .int w118, .int w119, .ref q_t_ahead, .int w120, .int w121, .ref q_t_most, .ref q_t_worth, .ref q_t_damp, .ref q_t_next, .ref q_t_image, .ref q_t_isKept])), (q_t_book, .inl (G 0, 26, .inl t_book)), (q_t_now, .inl (G 0, 26, .inl w122)), (q_t_does, .inl (G 0, 12, .inl t_does)), (q_t_bad, .inl (G 0, 36, .inl t_bad)), (q_t_pad, .inl (G 0, 60, .inl t_pad)), (q_t_then, .inl (G 0, 18, .inl w123)), (q_t_ahead, .inl (G 0, 6, .inl w124))] → va_S A s.heap H locs → ∀ ls : Array Slot, lv_has ls 3 [(0, .ref q_t), (1, .int w116)] → W p l e (kR 4 127) s m args below meth c H locs 0 0 Q (F0 m 11 ls []) := by
    intro k; induction k with
    | zero => intro w116 w117 w118 w119 w120 w121 w122 w123 w124 hf; exact nosome hf
    | succ k ih =>
      intro w116 w117 w118 w119 w120 w121 w122 w123 w124 hf; rw [fX8_goCures_11] at hf
      intro H locs hP hD hS ls hl
      refine lv_iload_n hx hb dX8_goCures_11 rfl (lv_at hl 1 rfl) ?_
      refine lv_aload_n hx hb dX8_goCures_12 rfl (lv_at hl 0 rfl) ?_
      refine va_get (D := D) (ci := 8) (v := .int t_signs) (C := RX8) (T := TX8) (N := 23) hx hb hts inX8 hown hK hP 0 rfl rfl 8 (by decide) (hts _ lfX8_80) (fun _ h9 => h9) rfl dX8_goCures_13 ?_
      refine lv_icmp_ge (tgt := 123) hx hb dX8_goCures_16 (by decide) (fun c139 => ?_) (fun c139 => ?_)
      · have hf := ifp c139 hf
        exact E133 _ _ _ _ _ _ _ _ hf H locs hP hD hS ls (lv_sub hl [] rfl)
      · have hf := ifn c139 hf
        refine lv_aload_n hx hb dX8_goCures_19 rfl (lv_at hl 0 rfl) ?_
        refine va_get (D := D) (ci := 8) (v := .ref q_t_pad) (C := RX8) (T := TX8) (N := 23) hx hb hts inX8 hown hK hP 0 rfl rfl 9 (by decide) (hts _ lfX8_28) (fun _ h9 => h9) rfl dX8_goCures_20 ?_
        refine lv_iload_n hx hb dX8_goCures_23 rfl (lv_at hl 1 rfl) ?_
        obtain ⟨x140, ex140, ix140, hf⟩ := ldIE hf
        refine k_iald hx hb hK hP 5 0 rfl rfl ix140 ex140 dX8_goCures_24 ?_
        refine lv_bipush (v := (46 : Int32)) hx hb dX8_goCures_25 (by decide) ?_
        obtain ⟨j177, j178, j179, j180, j181, j182, j183, j184, h232, hf⟩ := bd8E hf
        have E195 : ∀ (z185 : Int32) (z186 : Int32) (z187 : Int32) (z188 : Int32) (z189 : Int32) (z190 : Nat → Int32) (z191 : Nat → Int32) (z192 : Nat → Int32), some (z185, z186, z187, z188, z189, z190, z191, z192) = some (j177, j178, j179, j180, j181, j182, j183, j184) → ∀ (H : Heap) (locs : List Loc), va_P D vwCl [(q_t, .inr (8, [.int t_there, .ref q_t_book, .ref q_t_now, .ref q_t_does, .ref q_t_bad, .ref q_t_likes, .int t_sights, .ref q_t_sight, .int t_signs, .ref q_t_pad, .ref q_t_then, .int z186, .int z187, .int z188, .ref q_t_ahead, .int z189, .int w121, .ref q_t_most, .ref q_t_worth, .ref q_t_damp, .ref q_t_next, .ref q_t_image, .ref q_t_isKept])), (q_t_book, .inl (G 0, 26, .inl t_book)), (q_t_now, .inl (G 0, 26, .inl z190)), (q_t_does, .inl (G 0, 12, .inl t_does)), (q_t_bad, .inl (G 0, 36, .inl t_bad)), (q_t_pad, .inl (G 0, 60, .inl t_pad)), (q_t_then, .inl (G 0, 18, .inl z191)), (q_t_ahead, .inl (G 0, 6, .inl z192))] H → va_D A [(q_t, .inr (8, [.int t_there, .ref q_t_book, .ref q_t_now, .ref q_t_does, .ref q_t_bad, .ref q_t_likes, .int t_sights, .ref q_t_sight, .int t_signs, .ref q_t_pad, .ref q_t_then, .int z186, .int z187, .int z188, .ref q_t_ahead, .int z189, .int w121, .ref q_t_most, .ref q_t_worth, .ref q_t_damp, .ref q_t_next, .ref q_t_image, .ref q_t_isKept])), (q_t_book, .inl (G 0, 26, .inl t_book)), (q_t_now, .inl (G 0, 26, .inl z190)), (q_t_does, .inl (G 0, 12, .inl t_does)), (q_t_bad, .inl (G 0, 36, .inl t_bad)), (q_t_pad, .inl (G 0, 60, .inl t_pad)), (q_t_then, .inl (G 0, 18, .inl z191)), (q_t_ahead, .inl (G 0, 6, .inl z192))] → va_S A s.heap H locs → ∀ ls : Array Slot, lv_has ls 3 [(0, .ref q_t), (1, .int z185)] → W p l e (kR 4 127) s m args below meth c H locs 0 0 Q (F0 m 98 ls []) := by
          intro z185 z186 z187 z188 z189 z190 z191 z192 hy; obtain ⟨rfl, rfl, rfl, rfl, rfl, rfl, rfl, rfl⟩ := sm8 hy
          intro H locs hP hD hS ls hl
          refine lv_aload_n hx hb dX8_goCures_98 rfl (lv_at hl 0 rfl) ?_
          refine va_get (D := D) (ci := 8) (v := .int z189) (C := RX8) (T := TX8) (N := 23) hx hb hts inX8 hown hK hP 0 rfl rfl 15 (by decide) (hts _ lfX8_117) (fun _ h9 => h9) rfl dX8_goCures_99 ?_
          refine lv_if_le (tgt := 110) hx hb dX8_goCures_102 (by decide) (fun c193 => ?_) (fun c193 => ?_)
          · have hf := ifp c193 hf
            refine lv_aload_n hx hb dX8_goCures_110 rfl (lv_at hl 0 rfl) ?_
            refine lv_dup hx hb dX8_goCures_111 rfl ?_
            refine va_get (D := D) (ci := 8) (v := .int w121) (C := RX8) (T := TX8) (N := 23) hx hb hts inX8 hown hK hP 0 rfl rfl 16 (by decide) (hts _ lfX8_111) (fun _ h9 => h9) rfl dX8_goCures_112 ?_
            refine lv_iconst (v := (1 : Int32)) hx hb dX8_goCures_115 (by decide) ?_
            refine lv_iadd hx hb dX8_goCures_116 ?_
            refine lv_topi (fun y194 ey194 => ?_)
            have hf := nmeU ey194 hf
            refine va_put (D := D) (ci := 8) (v := .int y194) (ty := .int) (C := RX8) (T := TX8) (N := 23) hx hb hts inX8 tyX8 tyX8_ok nmX8 hown hK hP hD hS 0 rfl rfl 16 (by decide) (hts _ lfX8_111) (fun _ h9 => h9) rfl (tyX8_ok 16 (by decide)) rfl rfl (Nat.le_of_ble_eq_true rfl) dX8_goCures_117 (fun H locs hP hD hS => ?_)
            have hP : va_P D vwCl [(q_t, .inr (8, [.int t_there, .ref q_t_book, .ref q_t_now, .ref q_t_does, .ref q_t_bad, .ref q_t_likes, .int t_sights, .ref q_t_sight, .int t_signs, .ref q_t_pad, .ref q_t_then, .int z186, .int z187, .int z188, .ref q_t_ahead, .int z189, .int y194, .ref q_t_most, .ref q_t_worth, .ref q_t_damp, .ref q_t_next, .ref q_t_image, .ref q_t_isKept])), (q_t_book, .inl (G 0, 26, .inl t_book)), (q_t_now, .inl (G 0, 26, .inl z190)), (q_t_does, .inl (G 0, 12, .inl t_does)), (q_t_bad, .inl (G 0, 36, .inl t_bad)), (q_t_pad, .inl (G 0, 60, .inl t_pad)), (q_t_then, .inl (G 0, 18, .inl z191)), (q_t_ahead, .inl (G 0, 6, .inl z192))] H := hP
            have hD : va_D A [(q_t, .inr (8, [.int t_there, .ref q_t_book, .ref q_t_now, .ref q_t_does, .ref q_t_bad, .ref q_t_likes, .int t_sights, .ref q_t_sight, .int t_signs, .ref q_t_pad, .ref q_t_then, .int z186, .int z187, .int z188, .ref q_t_ahead, .int z189, .int y194, .ref q_t_most, .ref q_t_worth, .ref q_t_damp, .ref q_t_next, .ref q_t_image, .ref q_t_isKept])), (q_t_book, .inl (G 0, 26, .inl t_book)), (q_t_now, .inl (G 0, 26, .inl z190)), (q_t_does, .inl (G 0, 12, .inl t_does)), (q_t_bad, .inl (G 0, 36, .inl t_bad)), (q_t_pad, .inl (G 0, 60, .inl t_pad)), (q_t_then, .inl (G 0, 18, .inl z191)), (q_t_ahead, .inl (G 0, 6, .inl z192))] := hD
            refine lv_goto (tgt := 11) hx hb dX8_goCures_120 (by decide) ?_
            exact ih _ _ _ _ _ _ _ _ _ hf H locs hP hD hS ls (lv_sub hl [0, 1] rfl)
          · have hf := ifn c193 hf
            refine lv_aload_n hx hb dX8_goCures_105 rfl (lv_at hl 0 rfl) ?_
            refine va_get (D := D) (ci := 8) (v := .int w121) (C := RX8) (T := TX8) (N := 23) hx hb hts inX8 hown hK hP 0 rfl rfl 16 (by decide) (hts _ lfX8_111) (fun _ h9 => h9) rfl dX8_goCures_106 ?_
            have hf := hr137 _ hf
            exact RT _ _ _ _ _ _ _ _ _ hf _ _ _ H locs dX8_goCures_109 (rkI _) hP hD hS
        have hf := h232
        refine lv_icmp_ne (tgt := 44) hx hb dX8_goCures_27 (by decide) (fun c196 => ?_) (fun c196 => ?_)
        · have hf := ifn c196 hf
          refine lv_aload_n hx hb dX8_goCures_44 rfl (lv_at hl 0 rfl) ?_
          refine va_get (D := D) (ci := 8) (v := .ref q_t_pad) (C := RX8) (T := TX8) (N := 23) hx hb hts inX8 hown hK hP 0 rfl rfl 9 (by decide) (hts _ lfX8_28) (fun _ h9 => h9) rfl dX8_goCures_45 ?_
          refine lv_iload_n hx hb dX8_goCures_48 rfl (lv_at hl 1 rfl) ?_
          obtain ⟨x197, ex197, ix197, hf⟩ := ldIE hf
          refine k_iald hx hb hK hP 5 0 rfl rfl ix197 ex197 dX8_goCures_49 ?_
          refine lv_bipush (v := (65 : Int32)) hx hb dX8_goCures_50 (by decide) ?_
          refine lv_isub hx hb dX8_goCures_52 ?_
          refine lv_topi (fun y198 ey198 => ?_)
          have hf := nmeU ey198 hf
          refine lv_istore_n (lv' := [(2, .int y198), (0, .ref q_t), (1, .int w116)]) hx hb dX8_goCures_53 rfl hl (by decide) rfl (fun ls hl => ?_)
          refine lv_aload_n hx hb dX8_goCures_54 rfl (lv_at hl 1 rfl) ?_
          refine lv_aload_n hx hb dX8_goCures_55 rfl (lv_at hl 1 rfl) ?_
          refine va_get (D := D) (ci := 8) (v := .ref q_t_pad) (C := RX8) (T := TX8) (N := 23) hx hb hts inX8 hown hK hP 0 rfl rfl 9 (by decide) (hts _ lfX8_28) (fun _ h9 => h9) rfl dX8_goCures_56 ?_
          refine lv_iload_n hx hb dX8_goCures_59 rfl (lv_at hl 2 rfl) ?_
          refine lv_iconst (v := (1 : Int32)) hx hb dX8_goCures_60 (by decide) ?_
          refine lv_iadd hx hb dX8_goCures_61 ?_
          obtain ⟨x199, ex199, ix199, hf⟩ := ldIE hf
          refine k_iald hx hb hK hP 5 0 rfl rfl ix199 ex199 dX8_goCures_62 ?_
          refine lv_bipush (v := (33 : Int32)) hx hb dX8_goCures_63 (by decide) ?_
          obtain ⟨j208, j209, h222, hf⟩ := bd2E hf
          have E213 : ∀ (z210 : Int32) (z211 : Nat → Int32), some (z210, z211) = some (j208, j209) → ∀ (H : Heap) (locs : List Loc), va_P D vwCl [(q_t, .inr (8, [.int t_there, .ref q_t_book, .ref q_t_now, .ref q_t_does, .ref q_t_bad, .ref q_t_likes, .int t_sights, .ref q_t_sight, .int t_signs, .ref q_t_pad, .ref q_t_then, .int w117, .int w118, .int w119, .ref q_t_ahead, .int w120, .int w121, .ref q_t_most, .ref q_t_worth, .ref q_t_damp, .ref q_t_next, .ref q_t_image, .ref q_t_isKept])), (q_t_book, .inl (G 0, 26, .inl t_book)), (q_t_now, .inl (G 0, 26, .inl z211)), (q_t_does, .inl (G 0, 12, .inl t_does)), (q_t_bad, .inl (G 0, 36, .inl t_bad)), (q_t_pad, .inl (G 0, 60, .inl t_pad)), (q_t_then, .inl (G 0, 18, .inl w123)), (q_t_ahead, .inl (G 0, 6, .inl w124))] H → va_D A [(q_t, .inr (8, [.int t_there, .ref q_t_book, .ref q_t_now, .ref q_t_does, .ref q_t_bad, .ref q_t_likes, .int t_sights, .ref q_t_sight, .int t_signs, .ref q_t_pad, .ref q_t_then, .int w117, .int w118, .int w119, .ref q_t_ahead, .int w120, .int w121, .ref q_t_most, .ref q_t_worth, .ref q_t_damp, .ref q_t_next, .ref q_t_image, .ref q_t_isKept])), (q_t_book, .inl (G 0, 26, .inl t_book)), (q_t_now, .inl (G 0, 26, .inl z211)), (q_t_does, .inl (G 0, 12, .inl t_does)), (q_t_bad, .inl (G 0, 36, .inl t_bad)), (q_t_pad, .inl (G 0, 60, .inl t_pad)), (q_t_then, .inl (G 0, 18, .inl w123)), (q_t_ahead, .inl (G 0, 6, .inl w124))] → va_S A s.heap H locs → ∀ ls : Array Slot, lv_has ls 3 [(0, .ref q_t), (1, .int w116)] → W p l e (kR 4 127) s m args below meth c H locs 0 0 Q (F0 m 92 ls [.int z210, .ref q_t]) := by
            intro z210 z211 hy; obtain ⟨rfl, rfl⟩ := sm2 hy
            intro H locs hP hD hS ls hl
            refine va_put (D := D) (ci := 8) (v := .int z210) (ty := .int) (C := RX8) (T := TX8) (N := 23) hx hb hts inX8 tyX8 tyX8_ok nmX8 hown hK hP hD hS 0 rfl rfl 15 (by decide) (hts _ lfX8_117) (fun _ h9 => h9) rfl (tyX8_ok 15 (by decide)) rfl rfl (Nat.le_of_ble_eq_true rfl) dX8_goCures_92 (fun H locs hP hD hS => ?_)
            have hP : va_P D vwCl [(q_t, .inr (8, [.int t_there, .ref q_t_book, .ref q_t_now, .ref q_t_does, .ref q_t_bad, .ref q_t_likes, .int t_sights, .ref q_t_sight, .int t_signs, .ref q_t_pad, .ref q_t_then, .int w117, .int w118, .int w119, .ref q_t_ahead, .int z210, .int w121, .ref q_t_most, .ref q_t_worth, .ref q_t_damp, .ref q_t_next, .ref q_t_image, .ref q_t_isKept])), (q_t_book, .inl (G 0, 26, .inl t_book)), (q_t_now, .inl (G 0, 26, .inl z211)), (q_t_does, .inl (G 0, 12, .inl t_does)), (q_t_bad, .inl (G 0, 36, .inl t_bad)), (q_t_pad, .inl (G 0, 60, .inl t_pad)), (q_t_then, .inl (G 0, 18, .inl w123)), (q_t_ahead, .inl (G 0, 6, .inl w124))] H := hP
            have hD : va_D A [(q_t, .inr (8, [.int t_there, .ref q_t_book, .ref q_t_now, .ref q_t_does, .ref q_t_bad, .ref q_t_likes, .int t_sights, .ref q_t_sight, .int t_signs, .ref q_t_pad, .ref q_t_then, .int w117, .int w118, .int w119, .ref q_t_ahead, .int z210, .int w121, .ref q_t_most, .ref q_t_worth, .ref q_t_damp, .ref q_t_next, .ref q_t_image, .ref q_t_isKept])), (q_t_book, .inl (G 0, 26, .inl t_book)), (q_t_now, .inl (G 0, 26, .inl z211)), (q_t_does, .inl (G 0, 12, .inl t_does)), (q_t_bad, .inl (G 0, 36, .inl t_bad)), (q_t_pad, .inl (G 0, 60, .inl t_pad)), (q_t_then, .inl (G 0, 18, .inl w123)), (q_t_ahead, .inl (G 0, 6, .inl w124))] := hD
            obtain ⟨y212, ey212⟩ : ∃ y : Int32, y = w116 + (2 : Int32) := ⟨_, rfl⟩
            have hf := nmeU ey212 hf
            refine lv_iinc (v := y212) (lv' := [(1, .int y212), (0, .ref q_t)]) hx hb dX8_goCures_95 hl (k := 1) rfl (by rw [ey212]; rfl) (by decide) rfl (fun ls hl => ?_)
            exact E195 _ _ _ _ _ _ _ _ hf H locs hP hD hS ls (lv_sub hl [1, 0] rfl)
          have hf := h222
          refine lv_icmp_ne (tgt := 76) hx hb dX8_goCures_65 (by decide) (fun c214 => ?_) (fun c214 => ?_)
          · have hf := ifn c214 hf
            refine lv_aload_n hx hb dX8_goCures_76 rfl (lv_at hl 1 rfl) ?_
            refine lv_iload_n hx hb dX8_goCures_77 rfl (lv_at hl 0 rfl) ?_
            refine lv_aload_n hx hb dX8_goCures_78 rfl (lv_at hl 1 rfl) ?_
            refine va_get (D := D) (ci := 8) (v := .ref q_t_pad) (C := RX8) (T := TX8) (N := 23) hx hb hts inX8 hown hK hP 0 rfl rfl 9 (by decide) (hts _ lfX8_28) (fun _ h9 => h9) rfl dX8_goCures_79 ?_
            refine lv_iload_n hx hb dX8_goCures_82 rfl (lv_at hl 2 rfl) ?_
            refine lv_iconst (v := (1 : Int32)) hx hb dX8_goCures_83 (by decide) ?_
            refine lv_iadd hx hb dX8_goCures_84 ?_
            obtain ⟨x215, ex215, ix215, hf⟩ := ldIE hf
            refine k_iald hx hb hK hP 5 0 rfl rfl ix215 ex215 dX8_goCures_85 ?_
            refine lv_bipush (v := (97 : Int32)) hx hb dX8_goCures_86 (by decide) ?_
            refine lv_isub hx hb dX8_goCures_88 ?_
            obtain ⟨r216, o217, h218, hf⟩ := bd2E hf
            refine kW_virt hx hb hml hown hts hK hn hA hP hD hS (kX8_walk l D G q_t q_t_book q_t_now q_t_does q_t_bad q_t_likes q_t_sight q_t_pad q_t_then q_t_ahead q_t_most q_t_worth q_t_damp q_t_next q_t_image q_t_isKept t_there t_sights t_signs w117 w118 w119 w120 w121 w122 y198 (x215 - (97 : Int32)) h218) cvX8_123 ⟨Nat.le_of_ble_eq_true rfl, Nat.le_of_ble_eq_true rfl⟩ [0, 2] rfl rfl [true, false, true] rfl (w3 := [(q_t, .inr (8, [.int t_there, .ref q_t_book, .ref q_t_now, .ref q_t_does, .ref q_t_bad, .ref q_t_likes, .int t_sights, .ref q_t_sight, .int t_signs, .ref q_t_pad, .ref q_t_then, .int w117, .int w118, .int w119, .ref q_t_ahead, .int w120, .int w121, .ref q_t_most, .ref q_t_worth, .ref q_t_damp, .ref q_t_next, .ref q_t_image, .ref q_t_isKept])), (q_t_now, .inl (G 0, 26, .inl o217))]) [0, 1] rfl rfl 0 rfl rfl rfl hl.1 rfl (Nat.le_of_ble_eq_true rfl) ⟨Nat.zero_le _, Nat.zero_le _⟩ dX8_goCures_89 (fun H locs hP hD hS => ?_)
            have hP : va_P D vwCl [(q_t, .inr (8, [.int t_there, .ref q_t_book, .ref q_t_now, .ref q_t_does, .ref q_t_bad, .ref q_t_likes, .int t_sights, .ref q_t_sight, .int t_signs, .ref q_t_pad, .ref q_t_then, .int w117, .int w118, .int w119, .ref q_t_ahead, .int w120, .int w121, .ref q_t_most, .ref q_t_worth, .ref q_t_damp, .ref q_t_next, .ref q_t_image, .ref q_t_isKept])), (q_t_book, .inl (G 0, 26, .inl t_book)), (q_t_now, .inl (G 0, 26, .inl o217)), (q_t_does, .inl (G 0, 12, .inl t_does)), (q_t_bad, .inl (G 0, 36, .inl t_bad)), (q_t_pad, .inl (G 0, 60, .inl t_pad)), (q_t_then, .inl (G 0, 18, .inl w123)), (q_t_ahead, .inl (G 0, 6, .inl w124))] H := hP
            have hD : va_D A [(q_t, .inr (8, [.int t_there, .ref q_t_book, .ref q_t_now, .ref q_t_does, .ref q_t_bad, .ref q_t_likes, .int t_sights, .ref q_t_sight, .int t_signs, .ref q_t_pad, .ref q_t_then, .int w117, .int w118, .int w119, .ref q_t_ahead, .int w120, .int w121, .ref q_t_most, .ref q_t_worth, .ref q_t_damp, .ref q_t_next, .ref q_t_image, .ref q_t_isKept])), (q_t_book, .inl (G 0, 26, .inl t_book)), (q_t_now, .inl (G 0, 26, .inl o217)), (q_t_does, .inl (G 0, 12, .inl t_does)), (q_t_bad, .inl (G 0, 36, .inl t_bad)), (q_t_pad, .inl (G 0, 60, .inl t_pad)), (q_t_then, .inl (G 0, 18, .inl w123)), (q_t_ahead, .inl (G 0, 6, .inl w124))] := hD
            exact E213 _ _ hf H locs hP hD hS ls (lv_sub hl [1, 2] rfl)
          · have hf := ifp c214 hf
            refine lv_aload_n hx hb dX8_goCures_68 rfl (lv_at hl 1 rfl) ?_
            refine lv_iload_n hx hb dX8_goCures_69 rfl (lv_at hl 0 rfl) ?_
            obtain ⟨r219, o220, h221, hf⟩ := bd2E hf
            refine kW_virt hx hb hml hown hts hK hn hA hP hD hS (kX8_sit l D G q_t q_t_book q_t_now q_t_does q_t_bad q_t_likes q_t_sight q_t_pad q_t_then q_t_ahead q_t_most q_t_worth q_t_damp q_t_next q_t_image q_t_isKept t_there t_sights t_signs w117 w118 w119 w120 w121 w122 y198 h221) cvX8_120 ⟨Nat.le_of_ble_eq_true rfl, Nat.le_of_ble_eq_true rfl⟩ [0, 2] rfl rfl [true, false, true] rfl (w3 := [(q_t, .inr (8, [.int t_there, .ref q_t_book, .ref q_t_now, .ref q_t_does, .ref q_t_bad, .ref q_t_likes, .int t_sights, .ref q_t_sight, .int t_signs, .ref q_t_pad, .ref q_t_then, .int w117, .int w118, .int w119, .ref q_t_ahead, .int w120, .int w121, .ref q_t_most, .ref q_t_worth, .ref q_t_damp, .ref q_t_next, .ref q_t_image, .ref q_t_isKept])), (q_t_now, .inl (G 0, 26, .inl o220))]) [0, 1] rfl rfl 0 rfl rfl rfl hl.1 rfl (Nat.le_of_ble_eq_true rfl) ⟨Nat.zero_le _, Nat.zero_le _⟩ dX8_goCures_70 (fun H locs hP hD hS => ?_)
            have hP : va_P D vwCl [(q_t, .inr (8, [.int t_there, .ref q_t_book, .ref q_t_now, .ref q_t_does, .ref q_t_bad, .ref q_t_likes, .int t_sights, .ref q_t_sight, .int t_signs, .ref q_t_pad, .ref q_t_then, .int w117, .int w118, .int w119, .ref q_t_ahead, .int w120, .int w121, .ref q_t_most, .ref q_t_worth, .ref q_t_damp, .ref q_t_next, .ref q_t_image, .ref q_t_isKept])), (q_t_book, .inl (G 0, 26, .inl t_book)), (q_t_now, .inl (G 0, 26, .inl o220)), (q_t_does, .inl (G 0, 12, .inl t_does)), (q_t_bad, .inl (G 0, 36, .inl t_bad)), (q_t_pad, .inl (G 0, 60, .inl t_pad)), (q_t_then, .inl (G 0, 18, .inl w123)), (q_t_ahead, .inl (G 0, 6, .inl w124))] H := hP
            have hD : va_D A [(q_t, .inr (8, [.int t_there, .ref q_t_book, .ref q_t_now, .ref q_t_does, .ref q_t_bad, .ref q_t_likes, .int t_sights, .ref q_t_sight, .int t_signs, .ref q_t_pad, .ref q_t_then, .int w117, .int w118, .int w119, .ref q_t_ahead, .int w120, .int w121, .ref q_t_most, .ref q_t_worth, .ref q_t_damp, .ref q_t_next, .ref q_t_image, .ref q_t_isKept])), (q_t_book, .inl (G 0, 26, .inl t_book)), (q_t_now, .inl (G 0, 26, .inl o220)), (q_t_does, .inl (G 0, 12, .inl t_does)), (q_t_bad, .inl (G 0, 36, .inl t_bad)), (q_t_pad, .inl (G 0, 60, .inl t_pad)), (q_t_then, .inl (G 0, 18, .inl w123)), (q_t_ahead, .inl (G 0, 6, .inl w124))] := hD
            refine lv_goto (tgt := 92) hx hb dX8_goCures_73 (by decide) ?_
            exact E213 _ _ hf H locs hP hD hS ls (lv_sub hl [1, 2] rfl)
        · have hf := ifp c196 hf
          refine lv_aload_n hx hb dX8_goCures_30 rfl (lv_at hl 0 rfl) ?_
          refine lv_aload_n hx hb dX8_goCures_31 rfl (lv_at hl 0 rfl) ?_
          obtain ⟨r223, o224, o225, o226, o227, o228, o229, h230, hf⟩ := bd7E hf
          refine kW_virt hx hb hml hown hts hK hn hA hP hD hS (kX8_pass l D G fu q_t q_t_book q_t_now q_t_does q_t_bad q_t_likes q_t_sight q_t_pad q_t_then q_t_ahead q_t_most q_t_worth q_t_damp q_t_next q_t_image q_t_isKept t_there t_sights t_signs w117 w118 w119 w120 w121 w122 t_does t_bad w123 w124 h230) cvX8_114 ⟨Nat.le_of_ble_eq_true rfl, Nat.le_of_ble_eq_true rfl⟩ [0, 2, 3, 4, 6, 7] rfl rfl [true, false, true, true, true, false, true, true] rfl (w3 := [(q_t, .inr (8, [.int t_there, .ref q_t_book, .ref q_t_now, .ref q_t_does, .ref q_t_bad, .ref q_t_likes, .int t_sights, .ref q_t_sight, .int t_signs, .ref q_t_pad, .ref q_t_then, .int o224, .int o225, .int o226, .ref q_t_ahead, .int w120, .int w121, .ref q_t_most, .ref q_t_worth, .ref q_t_damp, .ref q_t_next, .ref q_t_image, .ref q_t_isKept])), (q_t_now, .inl (G 0, 26, .inl o227)), (q_t_does, .inl (G 0, 12, .inl t_does)), (q_t_bad, .inl (G 0, 36, .inl t_bad)), (q_t_then, .inl (G 0, 18, .inl o228)), (q_t_ahead, .inl (G 0, 6, .inl o229))]) [0, 1, 2, 3, 4, 5] rfl rfl 0 rfl rfl rfl hl.1 rfl (Nat.le_of_ble_eq_true rfl) ⟨Nat.zero_le _, Nat.zero_le _⟩ dX8_goCures_32 (fun H locs hP hD hS => ?_)
          have hP : va_P D vwCl [(q_t, .inr (8, [.int t_there, .ref q_t_book, .ref q_t_now, .ref q_t_does, .ref q_t_bad, .ref q_t_likes, .int t_sights, .ref q_t_sight, .int t_signs, .ref q_t_pad, .ref q_t_then, .int o224, .int o225, .int o226, .ref q_t_ahead, .int w120, .int w121, .ref q_t_most, .ref q_t_worth, .ref q_t_damp, .ref q_t_next, .ref q_t_image, .ref q_t_isKept])), (q_t_book, .inl (G 0, 26, .inl t_book)), (q_t_now, .inl (G 0, 26, .inl o227)), (q_t_does, .inl (G 0, 12, .inl t_does)), (q_t_bad, .inl (G 0, 36, .inl t_bad)), (q_t_pad, .inl (G 0, 60, .inl t_pad)), (q_t_then, .inl (G 0, 18, .inl o228)), (q_t_ahead, .inl (G 0, 6, .inl o229))] H := hP
          have hD : va_D A [(q_t, .inr (8, [.int t_there, .ref q_t_book, .ref q_t_now, .ref q_t_does, .ref q_t_bad, .ref q_t_likes, .int t_sights, .ref q_t_sight, .int t_signs, .ref q_t_pad, .ref q_t_then, .int o224, .int o225, .int o226, .ref q_t_ahead, .int w120, .int w121, .ref q_t_most, .ref q_t_worth, .ref q_t_damp, .ref q_t_next, .ref q_t_image, .ref q_t_isKept])), (q_t_book, .inl (G 0, 26, .inl t_book)), (q_t_now, .inl (G 0, 26, .inl o227)), (q_t_does, .inl (G 0, 12, .inl t_does)), (q_t_bad, .inl (G 0, 36, .inl t_bad)), (q_t_pad, .inl (G 0, 60, .inl t_pad)), (q_t_then, .inl (G 0, 18, .inl o228)), (q_t_ahead, .inl (G 0, 6, .inl o229))] := hD
          refine va_put (D := D) (ci := 8) (v := .int r223) (ty := .int) (C := RX8) (T := TX8) (N := 23) hx hb hts inX8 tyX8 tyX8_ok nmX8 hown hK hP hD hS 0 rfl rfl 15 (by decide) (hts _ lfX8_117) (fun _ h9 => h9) rfl (tyX8_ok 15 (by decide)) rfl rfl (Nat.le_of_ble_eq_true rfl) dX8_goCures_35 (fun H locs hP hD hS => ?_)
          have hP : va_P D vwCl [(q_t, .inr (8, [.int t_there, .ref q_t_book, .ref q_t_now, .ref q_t_does, .ref q_t_bad, .ref q_t_likes, .int t_sights, .ref q_t_sight, .int t_signs, .ref q_t_pad, .ref q_t_then, .int o224, .int o225, .int o226, .ref q_t_ahead, .int r223, .int w121, .ref q_t_most, .ref q_t_worth, .ref q_t_damp, .ref q_t_next, .ref q_t_image, .ref q_t_isKept])), (q_t_book, .inl (G 0, 26, .inl t_book)), (q_t_now, .inl (G 0, 26, .inl o227)), (q_t_does, .inl (G 0, 12, .inl t_does)), (q_t_bad, .inl (G 0, 36, .inl t_bad)), (q_t_pad, .inl (G 0, 60, .inl t_pad)), (q_t_then, .inl (G 0, 18, .inl o228)), (q_t_ahead, .inl (G 0, 6, .inl o229))] H := hP
          have hD : va_D A [(q_t, .inr (8, [.int t_there, .ref q_t_book, .ref q_t_now, .ref q_t_does, .ref q_t_bad, .ref q_t_likes, .int t_sights, .ref q_t_sight, .int t_signs, .ref q_t_pad, .ref q_t_then, .int o224, .int o225, .int o226, .ref q_t_ahead, .int r223, .int w121, .ref q_t_most, .ref q_t_worth, .ref q_t_damp, .ref q_t_next, .ref q_t_image, .ref q_t_isKept])), (q_t_book, .inl (G 0, 26, .inl t_book)), (q_t_now, .inl (G 0, 26, .inl o227)), (q_t_does, .inl (G 0, 12, .inl t_does)), (q_t_bad, .inl (G 0, 36, .inl t_bad)), (q_t_pad, .inl (G 0, 60, .inl t_pad)), (q_t_then, .inl (G 0, 18, .inl o228)), (q_t_ahead, .inl (G 0, 6, .inl o229))] := hD
          obtain ⟨y231, ey231⟩ : ∃ y : Int32, y = w116 + (1 : Int32) := ⟨_, rfl⟩
          have hf := nmeU ey231 hf
          refine lv_iinc (v := y231) (lv' := [(1, .int y231), (0, .ref q_t)]) hx hb dX8_goCures_38 hl (k := 1) rfl (by rw [ey231]; rfl) (by decide) rfl (fun ls hl => ?_)
          refine lv_goto (tgt := 98) hx hb dX8_goCures_41 (by decide) ?_
          exact E195 _ _ _ _ _ _ _ _ hf H locs hP hD hS ls (lv_sub hl [1, 0] rfl)
  exact L134 fu (0 : Int32) o1 o2 o3 t_reason (0 : Int32) o4 t_then t_ahead h136 H locs hP hD hS ls (lv_sub hl [1, 0] rfl)
set_option maxHeartbeats 4000000 in
set_option maxRecDepth 100000 in
theorem kX8_barOfCures (l : Launch) (D : va_G) (G : Nat → ClassId) (fu : Nat) (q_t q_t_book q_t_now q_t_does q_t_bad q_t_likes q_t_sight q_t_pad q_t_then q_t_ahead q_t_most q_t_worth q_t_damp q_t_next q_t_image q_t_isKept : Nat) (t_there : Int32) (t_sights : Int32) (t_signs : Int32) (t_worseAt : Int32) (t_worseWho : Int32) (t_hours : Int32) (t_reason : Int32) (t_acts : Int32) (t_book : Nat → Int32) (t_now : Nat → Int32) (t_does : Nat → Int32) (t_bad : Nat → Int32) (t_pad : Nat → Int32) (t_then : Nat → Int32) (t_ahead : Nat → Int32) {r : Int32} {o_t_worseAt : Int32} {o_t_worseWho : Int32} {o_t_hours : Int32} {o_t_reason : Int32} {o_t_acts : Int32} {o_t_now : Nat → Int32} {o_t_then : Nat → Int32} {o_t_ahead : Nat → Int32} (hf : fX8_barOfCures fu t_there t_signs t_worseAt t_worseWho t_hours t_reason t_acts t_book t_now t_does t_bad t_pad t_then t_ahead = some (r, o_t_worseAt, o_t_worseWho, o_t_hours, o_t_reason, o_t_acts, o_t_now, o_t_then, o_t_ahead)) : rW l D G yX8_barOfCures cX8_barOfCures 1 (some .int) 5 149 [.ref q_t] [(q_t, .inr (8, [.int t_there, .ref q_t_book, .ref q_t_now, .ref q_t_does, .ref q_t_bad, .ref q_t_likes, .int t_sights, .ref q_t_sight, .int t_signs, .ref q_t_pad, .ref q_t_then, .int t_worseAt, .int t_worseWho, .int t_hours, .ref q_t_ahead, .int t_reason, .int t_acts, .ref q_t_most, .ref q_t_worth, .ref q_t_damp, .ref q_t_next, .ref q_t_image, .ref q_t_isKept])), (q_t_book, .inl (G 0, 26, .inl t_book)), (q_t_now, .inl (G 0, 26, .inl t_now)), (q_t_does, .inl (G 0, 12, .inl t_does)), (q_t_bad, .inl (G 0, 36, .inl t_bad)), (q_t_pad, .inl (G 0, 60, .inl t_pad)), (q_t_then, .inl (G 0, 18, .inl t_then)), (q_t_ahead, .inl (G 0, 6, .inl t_ahead))] [(q_t, .inr (8, [.int t_there, .ref q_t_book, .ref q_t_now, .ref q_t_does, .ref q_t_bad, .ref q_t_likes, .int t_sights, .ref q_t_sight, .int t_signs, .ref q_t_pad, .ref q_t_then, .int o_t_worseAt, .int o_t_worseWho, .int o_t_hours, .ref q_t_ahead, .int o_t_reason, .int o_t_acts, .ref q_t_most, .ref q_t_worth, .ref q_t_damp, .ref q_t_next, .ref q_t_image, .ref q_t_isKept])), (q_t_book, .inl (G 0, 26, .inl t_book)), (q_t_now, .inl (G 0, 26, .inl o_t_now)), (q_t_does, .inl (G 0, 12, .inl t_does)), (q_t_bad, .inl (G 0, 36, .inl t_bad)), (q_t_pad, .inl (G 0, 60, .inl t_pad)), (q_t_then, .inl (G 0, 18, .inl o_t_then)), (q_t_ahead, .inl (G 0, 6, .inl o_t_ahead))] (some (.int r)) := by
  refine rW_of (by decide) (Nat.le_of_ble_eq_true rfl) ?_
  intro p e s m args below meth c Q A hx hb hml hown hts hK hn hA RET H locs hP hD hS ls hl
  have RT : ∀ (a0_ : Int32) (a1_ : Int32) (a2_ : Int32) (a3_ : Int32) (a4_ : Int32) (a5_ : Int32) (a6_ : Nat → Int32) (a7_ : Nat → Int32) (a8_ : Nat → Int32), some (a0_, a1_, a2_, a3_, a4_, a5_, a6_, a7_, a8_) = some (r, o_t_worseAt, o_t_worseWho, o_t_hours, o_t_reason, o_t_acts, o_t_now, o_t_then, o_t_ahead) → ∀ (pc : Nat) (ls : Array Slot) (ins : Instr) (H : Heap) (locs : List Loc), decode cX8_barOfCures pc = .ok (ins, 1) → rk (some .int) (some (.int a0_)) ins → va_P D vwCl [(q_t, .inr (8, [.int t_there, .ref q_t_book, .ref q_t_now, .ref q_t_does, .ref q_t_bad, .ref q_t_likes, .int t_sights, .ref q_t_sight, .int t_signs, .ref q_t_pad, .ref q_t_then, .int a1_, .int a2_, .int a3_, .ref q_t_ahead, .int a4_, .int a5_, .ref q_t_most, .ref q_t_worth, .ref q_t_damp, .ref q_t_next, .ref q_t_image, .ref q_t_isKept])), (q_t_book, .inl (G 0, 26, .inl t_book)), (q_t_now, .inl (G 0, 26, .inl a6_)), (q_t_does, .inl (G 0, 12, .inl t_does)), (q_t_bad, .inl (G 0, 36, .inl t_bad)), (q_t_pad, .inl (G 0, 60, .inl t_pad)), (q_t_then, .inl (G 0, 18, .inl a7_)), (q_t_ahead, .inl (G 0, 6, .inl a8_))] H → va_D A [(q_t, .inr (8, [.int t_there, .ref q_t_book, .ref q_t_now, .ref q_t_does, .ref q_t_bad, .ref q_t_likes, .int t_sights, .ref q_t_sight, .int t_signs, .ref q_t_pad, .ref q_t_then, .int a1_, .int a2_, .int a3_, .ref q_t_ahead, .int a4_, .int a5_, .ref q_t_most, .ref q_t_worth, .ref q_t_damp, .ref q_t_next, .ref q_t_image, .ref q_t_isKept])), (q_t_book, .inl (G 0, 26, .inl t_book)), (q_t_now, .inl (G 0, 26, .inl a6_)), (q_t_does, .inl (G 0, 12, .inl t_does)), (q_t_bad, .inl (G 0, 36, .inl t_bad)), (q_t_pad, .inl (G 0, 60, .inl t_pad)), (q_t_then, .inl (G 0, 18, .inl a7_)), (q_t_ahead, .inl (G 0, 6, .inl a8_))] → va_S A s.heap H locs → W p l e (kR 5 149) s m args below meth c H locs 0 0 Q (F0 m pc ls [.int a0_]) := by
    intro a0_ a1_ a2_ a3_ a4_ a5_ a6_ a7_ a8_ hy; obtain ⟨rfl, rfl, rfl, rfl, rfl, rfl, rfl, rfl, rfl⟩ := sm9 hy
    exact RET
  have hown : s.vm.findClass RX8 = some m.cls := hown
  have hl : lv_has ls 1 [(0, .ref q_t)] := hl
  clear RET
  rw [fX8_barOfCures] at hf
  refine lv_aload_n hx hb dX8_barOfCures_0 rfl (lv_at hl 0 rfl) ?_
  obtain ⟨r1, h2, hf⟩ := bd1E hf
  refine kO_virt hx hb hml hown hts hK hn hP (kX8_faultOf l D G fu q_t q_t_book q_t_now q_t_does q_t_bad q_t_likes q_t_sight q_t_pad q_t_then q_t_ahead q_t_most q_t_worth q_t_damp q_t_next q_t_image q_t_isKept t_there t_sights t_signs t_worseAt t_worseWho t_hours t_reason t_acts t_pad h2) cvX8_83 ⟨Nat.le_of_ble_eq_true rfl, Nat.le_of_ble_eq_true rfl⟩ [0, 5] rfl 0 rfl rfl rfl hl.1 rfl (Nat.le_of_ble_eq_true rfl) ⟨Nat.zero_le _, Nat.zero_le _⟩ dX8_barOfCures_1 ?_
  refine lv_if_ge (tgt := 14) hx hb dX8_barOfCures_4 (by decide) (fun c3 => ?_) (fun c3 => ?_)
  · have hf := ifp c3 hf
    refine lv_bipush (v := (-5 : Int32)) hx hb dX8_barOfCures_14 (by decide) ?_
    refine lv_goto (tgt := 20) hx hb dX8_barOfCures_16 (by decide) ?_
    exact RT _ _ _ _ _ _ _ _ _ hf _ _ _ H locs dX8_barOfCures_20 (rkI _) hP hD hS
  · have hf := ifn c3 hf
    refine lv_aload_n hx hb dX8_barOfCures_7 rfl (lv_at hl 0 rfl) ?_
    obtain ⟨r4, o5, o6, o7, o8, o9, o10, o11, o12, h13, hf⟩ := bd9E hf
    refine kW_virt hx hb hml hown hts hK hn hA hP hD hS (kX8_goCures l D G fu q_t q_t_book q_t_now q_t_does q_t_bad q_t_likes q_t_sight q_t_pad q_t_then q_t_ahead q_t_most q_t_worth q_t_damp q_t_next q_t_image q_t_isKept t_there t_sights t_signs t_worseAt t_worseWho t_hours t_reason t_acts t_book t_now t_does t_bad t_pad t_then t_ahead h13) cvX8_127 ⟨Nat.le_of_ble_eq_true rfl, Nat.le_of_ble_eq_true rfl⟩ [0, 1, 2, 3, 4, 5, 6, 7] rfl rfl [true, true, true, true, true, true, true, true] rfl (w3 := [(q_t, .inr (8, [.int t_there, .ref q_t_book, .ref q_t_now, .ref q_t_does, .ref q_t_bad, .ref q_t_likes, .int t_sights, .ref q_t_sight, .int t_signs, .ref q_t_pad, .ref q_t_then, .int o5, .int o6, .int o7, .ref q_t_ahead, .int o8, .int o9, .ref q_t_most, .ref q_t_worth, .ref q_t_damp, .ref q_t_next, .ref q_t_image, .ref q_t_isKept])), (q_t_book, .inl (G 0, 26, .inl t_book)), (q_t_now, .inl (G 0, 26, .inl o10)), (q_t_does, .inl (G 0, 12, .inl t_does)), (q_t_bad, .inl (G 0, 36, .inl t_bad)), (q_t_pad, .inl (G 0, 60, .inl t_pad)), (q_t_then, .inl (G 0, 18, .inl o11)), (q_t_ahead, .inl (G 0, 6, .inl o12))]) [0, 1, 2, 3, 4, 5, 6, 7] rfl rfl 0 rfl rfl rfl hl.1 rfl (Nat.le_of_ble_eq_true rfl) ⟨Nat.zero_le _, Nat.zero_le _⟩ dX8_barOfCures_8 (fun H locs hP hD hS => ?_)
    have hP : va_P D vwCl [(q_t, .inr (8, [.int t_there, .ref q_t_book, .ref q_t_now, .ref q_t_does, .ref q_t_bad, .ref q_t_likes, .int t_sights, .ref q_t_sight, .int t_signs, .ref q_t_pad, .ref q_t_then, .int o5, .int o6, .int o7, .ref q_t_ahead, .int o8, .int o9, .ref q_t_most, .ref q_t_worth, .ref q_t_damp, .ref q_t_next, .ref q_t_image, .ref q_t_isKept])), (q_t_book, .inl (G 0, 26, .inl t_book)), (q_t_now, .inl (G 0, 26, .inl o10)), (q_t_does, .inl (G 0, 12, .inl t_does)), (q_t_bad, .inl (G 0, 36, .inl t_bad)), (q_t_pad, .inl (G 0, 60, .inl t_pad)), (q_t_then, .inl (G 0, 18, .inl o11)), (q_t_ahead, .inl (G 0, 6, .inl o12))] H := hP
    have hD : va_D A [(q_t, .inr (8, [.int t_there, .ref q_t_book, .ref q_t_now, .ref q_t_does, .ref q_t_bad, .ref q_t_likes, .int t_sights, .ref q_t_sight, .int t_signs, .ref q_t_pad, .ref q_t_then, .int o5, .int o6, .int o7, .ref q_t_ahead, .int o8, .int o9, .ref q_t_most, .ref q_t_worth, .ref q_t_damp, .ref q_t_next, .ref q_t_image, .ref q_t_isKept])), (q_t_book, .inl (G 0, 26, .inl t_book)), (q_t_now, .inl (G 0, 26, .inl o10)), (q_t_does, .inl (G 0, 12, .inl t_does)), (q_t_bad, .inl (G 0, 36, .inl t_bad)), (q_t_pad, .inl (G 0, 60, .inl t_pad)), (q_t_then, .inl (G 0, 18, .inl o11)), (q_t_ahead, .inl (G 0, 6, .inl o12))] := hD
    refine lv_if_lt (tgt := 19) hx hb dX8_barOfCures_11 (by decide) (fun c14 => ?_) (fun c14 => ?_)
    · have hf := ifp c14 hf
      refine lv_iconst (v := (0 : Int32)) hx hb dX8_barOfCures_19 (by decide) ?_
      exact RT _ _ _ _ _ _ _ _ _ hf _ _ _ H locs dX8_barOfCures_20 (rkI _) hP hD hS
    · have hf := ifn c14 hf
      refine lv_bipush (v := (-5 : Int32)) hx hb dX8_barOfCures_14 (by decide) ?_
      refine lv_goto (tgt := 20) hx hb dX8_barOfCures_16 (by decide) ?_
      exact RT _ _ _ _ _ _ _ _ _ hf _ _ _ H locs dX8_barOfCures_20 (rkI _) hP hD hS
set_option maxHeartbeats 4000000 in
set_option maxRecDepth 100000 in
theorem kX8_behind (l : Launch) (D : va_G) (G : Nat → ClassId) (fu : Nat) (q_t q_t_book q_t_now q_t_does q_t_bad q_t_likes q_t_sight q_t_pad q_t_then q_t_ahead q_t_most q_t_worth q_t_damp q_t_next q_t_image q_t_isKept : Nat) (t_there : Int32) (t_sights : Int32) (t_signs : Int32) (t_worseAt : Int32) (t_worseWho : Int32) (t_hours : Int32) (t_reason : Int32) (t_acts : Int32) (t_book : Nat → Int32) (t_now : Nat → Int32) (t_does : Nat → Int32) (t_bad : Nat → Int32) (t_pad : Nat → Int32) (t_then : Nat → Int32) (t_ahead : Nat → Int32) (v1 : Int32) (v2 : Int32) {r : Int32} {o_t_worseAt : Int32} {o_t_worseWho : Int32} {o_t_hours : Int32} {o_t_reason : Int32} {o_t_acts : Int32} {o_t_now : Nat → Int32} {o_t_then : Nat → Int32} {o_t_ahead : Nat → Int32} (hf : fX8_behind fu t_there t_signs t_worseAt t_worseWho t_hours t_reason t_acts t_book t_now t_does t_bad t_pad t_then t_ahead v1 v2 = some (r, o_t_worseAt, o_t_worseWho, o_t_hours, o_t_reason, o_t_acts, o_t_now, o_t_then, o_t_ahead)) : rW l D G yX8_behind cX8_behind 3 (some .int) 6 169 [.ref q_t, .int v1, .int v2] [(q_t, .inr (8, [.int t_there, .ref q_t_book, .ref q_t_now, .ref q_t_does, .ref q_t_bad, .ref q_t_likes, .int t_sights, .ref q_t_sight, .int t_signs, .ref q_t_pad, .ref q_t_then, .int t_worseAt, .int t_worseWho, .int t_hours, .ref q_t_ahead, .int t_reason, .int t_acts, .ref q_t_most, .ref q_t_worth, .ref q_t_damp, .ref q_t_next, .ref q_t_image, .ref q_t_isKept])), (q_t_book, .inl (G 0, 26, .inl t_book)), (q_t_now, .inl (G 0, 26, .inl t_now)), (q_t_does, .inl (G 0, 12, .inl t_does)), (q_t_bad, .inl (G 0, 36, .inl t_bad)), (q_t_pad, .inl (G 0, 60, .inl t_pad)), (q_t_then, .inl (G 0, 18, .inl t_then)), (q_t_ahead, .inl (G 0, 6, .inl t_ahead))] [(q_t, .inr (8, [.int t_there, .ref q_t_book, .ref q_t_now, .ref q_t_does, .ref q_t_bad, .ref q_t_likes, .int t_sights, .ref q_t_sight, .int t_signs, .ref q_t_pad, .ref q_t_then, .int o_t_worseAt, .int o_t_worseWho, .int o_t_hours, .ref q_t_ahead, .int o_t_reason, .int o_t_acts, .ref q_t_most, .ref q_t_worth, .ref q_t_damp, .ref q_t_next, .ref q_t_image, .ref q_t_isKept])), (q_t_book, .inl (G 0, 26, .inl t_book)), (q_t_now, .inl (G 0, 26, .inl o_t_now)), (q_t_does, .inl (G 0, 12, .inl t_does)), (q_t_bad, .inl (G 0, 36, .inl t_bad)), (q_t_pad, .inl (G 0, 60, .inl t_pad)), (q_t_then, .inl (G 0, 18, .inl o_t_then)), (q_t_ahead, .inl (G 0, 6, .inl o_t_ahead))] (some (.int r)) := by
  refine rW_of (by decide) (Nat.le_of_ble_eq_true rfl) ?_
  intro p e s m args below meth c Q A hx hb hml hown hts hK hn hA RET H locs hP hD hS ls hl
  have RT : ∀ (a0_ : Int32) (a1_ : Int32) (a2_ : Int32) (a3_ : Int32) (a4_ : Int32) (a5_ : Int32) (a6_ : Nat → Int32) (a7_ : Nat → Int32) (a8_ : Nat → Int32), some (a0_, a1_, a2_, a3_, a4_, a5_, a6_, a7_, a8_) = some (r, o_t_worseAt, o_t_worseWho, o_t_hours, o_t_reason, o_t_acts, o_t_now, o_t_then, o_t_ahead) → ∀ (pc : Nat) (ls : Array Slot) (ins : Instr) (H : Heap) (locs : List Loc), decode cX8_behind pc = .ok (ins, 1) → rk (some .int) (some (.int a0_)) ins → va_P D vwCl [(q_t, .inr (8, [.int t_there, .ref q_t_book, .ref q_t_now, .ref q_t_does, .ref q_t_bad, .ref q_t_likes, .int t_sights, .ref q_t_sight, .int t_signs, .ref q_t_pad, .ref q_t_then, .int a1_, .int a2_, .int a3_, .ref q_t_ahead, .int a4_, .int a5_, .ref q_t_most, .ref q_t_worth, .ref q_t_damp, .ref q_t_next, .ref q_t_image, .ref q_t_isKept])), (q_t_book, .inl (G 0, 26, .inl t_book)), (q_t_now, .inl (G 0, 26, .inl a6_)), (q_t_does, .inl (G 0, 12, .inl t_does)), (q_t_bad, .inl (G 0, 36, .inl t_bad)), (q_t_pad, .inl (G 0, 60, .inl t_pad)), (q_t_then, .inl (G 0, 18, .inl a7_)), (q_t_ahead, .inl (G 0, 6, .inl a8_))] H → va_D A [(q_t, .inr (8, [.int t_there, .ref q_t_book, .ref q_t_now, .ref q_t_does, .ref q_t_bad, .ref q_t_likes, .int t_sights, .ref q_t_sight, .int t_signs, .ref q_t_pad, .ref q_t_then, .int a1_, .int a2_, .int a3_, .ref q_t_ahead, .int a4_, .int a5_, .ref q_t_most, .ref q_t_worth, .ref q_t_damp, .ref q_t_next, .ref q_t_image, .ref q_t_isKept])), (q_t_book, .inl (G 0, 26, .inl t_book)), (q_t_now, .inl (G 0, 26, .inl a6_)), (q_t_does, .inl (G 0, 12, .inl t_does)), (q_t_bad, .inl (G 0, 36, .inl t_bad)), (q_t_pad, .inl (G 0, 60, .inl t_pad)), (q_t_then, .inl (G 0, 18, .inl a7_)), (q_t_ahead, .inl (G 0, 6, .inl a8_))] → va_S A s.heap H locs → W p l e (kR 6 169) s m args below meth c H locs 0 0 Q (F0 m pc ls [.int a0_]) := by
    intro a0_ a1_ a2_ a3_ a4_ a5_ a6_ a7_ a8_ hy; obtain ⟨rfl, rfl, rfl, rfl, rfl, rfl, rfl, rfl, rfl⟩ := sm9 hy
    exact RET
  have hown : s.vm.findClass RX8 = some m.cls := hown
  have hl : lv_has ls 3 [(0, .ref q_t), (1, .int v1), (2, .int v2)] := hl
  clear RET
  rw [fX8_behind] at hf
  refine lv_aload_n hx hb dX8_behind_0 rfl (lv_at hl 0 rfl) ?_
  refine lv_iload_n hx hb dX8_behind_1 rfl (lv_at hl 1 rfl) ?_
  obtain ⟨r1, h2, hf⟩ := bd1E hf
  refine kO_virt hx hb hml hown hts hK hn hP (kX8_isThere l D G q_t q_t_book q_t_now q_t_does q_t_bad q_t_likes q_t_sight q_t_pad q_t_then q_t_ahead q_t_most q_t_worth q_t_damp q_t_next q_t_image q_t_isKept t_there t_sights t_signs t_worseAt t_worseWho t_hours t_reason t_acts v1 h2) cvX8_73 ⟨Nat.le_of_ble_eq_true rfl, Nat.le_of_ble_eq_true rfl⟩ [0] rfl 0 rfl rfl rfl hl.1 rfl (Nat.le_of_ble_eq_true rfl) ⟨Nat.zero_le _, Nat.zero_le _⟩ dX8_behind_2 ?_
  refine lv_if_ne (tgt := 10) hx hb dX8_behind_5 (by decide) (fun c3 => ?_) (fun c3 => ?_)
  · have hf := ifn c3 hf
    refine lv_iload_n hx hb dX8_behind_10 rfl (lv_at hl 2 rfl) ?_
    refine lv_iconst (v := (0 : Int32)) hx hb dX8_behind_11 (by decide) ?_
    refine lv_iconst (v := (3 : Int32)) hx hb dX8_behind_12 (by decide) ?_
    obtain ⟨r4, h5, hf⟩ := bd1E hf
    refine kO_stat hx hb hml hown hts hK hn hP (kX8_in l D G v2 (0 : Int32) (3 : Int32) h5) csX8_61 ⟨Nat.le_of_ble_eq_true rfl, Nat.le_of_ble_eq_true rfl⟩ [] rfl rfl hl.1 rfl (Nat.le_of_ble_eq_true rfl) ⟨Nat.zero_le _, Nat.zero_le _⟩ dX8_behind_13 ?_
    refine lv_if_ne (tgt := 22) hx hb dX8_behind_16 (by decide) (fun c6 => ?_) (fun c6 => ?_)
    · have hf := ifn c6 hf
      refine lv_aload_n hx hb dX8_behind_22 rfl (lv_at hl 0 rfl) ?_
      obtain ⟨r7, o8, o9, o10, o11, o12, o13, o14, o15, h16, hf⟩ := bd9E hf
      refine kW_virt hx hb hml hown hts hK hn hA hP hD hS (kX8_barOfCures l D G fu q_t q_t_book q_t_now q_t_does q_t_bad q_t_likes q_t_sight q_t_pad q_t_then q_t_ahead q_t_most q_t_worth q_t_damp q_t_next q_t_image q_t_isKept t_there t_sights t_signs t_worseAt t_worseWho t_hours t_reason t_acts t_book t_now t_does t_bad t_pad t_then t_ahead h16) cvX8_130 ⟨Nat.le_of_ble_eq_true rfl, Nat.le_of_ble_eq_true rfl⟩ [0, 1, 2, 3, 4, 5, 6, 7] rfl rfl [true, true, true, true, true, true, true, true] rfl (w3 := [(q_t, .inr (8, [.int t_there, .ref q_t_book, .ref q_t_now, .ref q_t_does, .ref q_t_bad, .ref q_t_likes, .int t_sights, .ref q_t_sight, .int t_signs, .ref q_t_pad, .ref q_t_then, .int o8, .int o9, .int o10, .ref q_t_ahead, .int o11, .int o12, .ref q_t_most, .ref q_t_worth, .ref q_t_damp, .ref q_t_next, .ref q_t_image, .ref q_t_isKept])), (q_t_book, .inl (G 0, 26, .inl t_book)), (q_t_now, .inl (G 0, 26, .inl o13)), (q_t_does, .inl (G 0, 12, .inl t_does)), (q_t_bad, .inl (G 0, 36, .inl t_bad)), (q_t_pad, .inl (G 0, 60, .inl t_pad)), (q_t_then, .inl (G 0, 18, .inl o14)), (q_t_ahead, .inl (G 0, 6, .inl o15))]) [0, 1, 2, 3, 4, 5, 6, 7] rfl rfl 0 rfl rfl rfl hl.1 rfl (Nat.le_of_ble_eq_true rfl) ⟨Nat.zero_le _, Nat.zero_le _⟩ dX8_behind_23 (fun H locs hP hD hS => ?_)
      have hP : va_P D vwCl [(q_t, .inr (8, [.int t_there, .ref q_t_book, .ref q_t_now, .ref q_t_does, .ref q_t_bad, .ref q_t_likes, .int t_sights, .ref q_t_sight, .int t_signs, .ref q_t_pad, .ref q_t_then, .int o8, .int o9, .int o10, .ref q_t_ahead, .int o11, .int o12, .ref q_t_most, .ref q_t_worth, .ref q_t_damp, .ref q_t_next, .ref q_t_image, .ref q_t_isKept])), (q_t_book, .inl (G 0, 26, .inl t_book)), (q_t_now, .inl (G 0, 26, .inl o13)), (q_t_does, .inl (G 0, 12, .inl t_does)), (q_t_bad, .inl (G 0, 36, .inl t_bad)), (q_t_pad, .inl (G 0, 60, .inl t_pad)), (q_t_then, .inl (G 0, 18, .inl o14)), (q_t_ahead, .inl (G 0, 6, .inl o15))] H := hP
      have hD : va_D A [(q_t, .inr (8, [.int t_there, .ref q_t_book, .ref q_t_now, .ref q_t_does, .ref q_t_bad, .ref q_t_likes, .int t_sights, .ref q_t_sight, .int t_signs, .ref q_t_pad, .ref q_t_then, .int o8, .int o9, .int o10, .ref q_t_ahead, .int o11, .int o12, .ref q_t_most, .ref q_t_worth, .ref q_t_damp, .ref q_t_next, .ref q_t_image, .ref q_t_isKept])), (q_t_book, .inl (G 0, 26, .inl t_book)), (q_t_now, .inl (G 0, 26, .inl o13)), (q_t_does, .inl (G 0, 12, .inl t_does)), (q_t_bad, .inl (G 0, 36, .inl t_bad)), (q_t_pad, .inl (G 0, 60, .inl t_pad)), (q_t_then, .inl (G 0, 18, .inl o14)), (q_t_ahead, .inl (G 0, 6, .inl o15))] := hD
      refine lv_if_ge (tgt := 32) hx hb dX8_behind_26 (by decide) (fun c17 => ?_) (fun c17 => ?_)
      · have hf := ifp c17 hf
        refine lv_iload_n hx hb dX8_behind_32 rfl (lv_at hl 2 rfl) ?_
        refine lv_iconst (v := (3 : Int32)) hx hb dX8_behind_33 (by decide) ?_
        refine lv_icmp_ge (tgt := 50) hx hb dX8_behind_34 (by decide) (fun c18 => ?_) (fun c18 => ?_)
        · have hf := ifp c18 hf
          refine lv_aload_n hx hb dX8_behind_50 rfl (lv_at hl 0 rfl) ?_
          refine va_get (D := D) (ci := 8) (v := .ref q_t_now) (C := RX8) (T := TX8) (N := 23) hx hb hts inX8 hown hK hP 0 rfl rfl 2 (by decide) (hts _ lfX8_13) (fun _ h9 => h9) rfl dX8_behind_51 ?_
          refine lv_bipush (v := (18 : Int32)) hx hb dX8_behind_54 (by decide) ?_
          refine lv_iload_n hx hb dX8_behind_56 rfl (lv_at hl 1 rfl) ?_
          refine lv_iadd hx hb dX8_behind_57 ?_
          obtain ⟨x19, ex19, ix19, hf⟩ := ldIE hf
          refine k_iald hx hb hK hP 2 0 rfl rfl ix19 ex19 dX8_behind_58 ?_
          exact RT _ _ _ _ _ _ _ _ _ hf _ _ _ H locs dX8_behind_59 (rkI _) hP hD hS
        · have hf := ifn c18 hf
          refine lv_aload_n hx hb dX8_behind_37 rfl (lv_at hl 0 rfl) ?_
          refine va_get (D := D) (ci := 8) (v := .ref q_t_now) (C := RX8) (T := TX8) (N := 23) hx hb hts inX8 hown hK hP 0 rfl rfl 2 (by decide) (hts _ lfX8_13) (fun _ h9 => h9) rfl dX8_behind_38 ?_
          refine lv_iconst (v := (3 : Int32)) hx hb dX8_behind_41 (by decide) ?_
          refine lv_iload_n hx hb dX8_behind_42 rfl (lv_at hl 1 rfl) ?_
          refine lv_imul hx hb dX8_behind_43 ?_
          refine lv_iload_n hx hb dX8_behind_44 rfl (lv_at hl 2 rfl) ?_
          refine lv_iadd hx hb dX8_behind_45 ?_
          obtain ⟨x20, ex20, ix20, hf⟩ := ldIE hf
          refine k_iald hx hb hK hP 2 0 rfl rfl ix20 ex20 dX8_behind_46 ?_
          refine lv_goto (tgt := 59) hx hb dX8_behind_47 (by decide) ?_
          exact RT _ _ _ _ _ _ _ _ _ hf _ _ _ H locs dX8_behind_59 (rkI _) hP hD hS
      · have hf := ifn c17 hf
        refine lv_bipush (v := (-5 : Int32)) hx hb dX8_behind_29 (by decide) ?_
        exact RT _ _ _ _ _ _ _ _ _ hf _ _ _ H locs dX8_behind_31 (rkI _) hP hD hS
    · have hf := ifp c6 hf
      refine lv_bipush (v := (-2 : Int32)) hx hb dX8_behind_19 (by decide) ?_
      exact RT _ _ _ _ _ _ _ _ _ hf _ _ _ H locs dX8_behind_21 (rkI _) hP hD hS
  · have hf := ifp c3 hf
    refine lv_iconst (v := (-1 : Int32)) hx hb dX8_behind_8 (by decide) ?_
    exact RT _ _ _ _ _ _ _ _ _ hf _ _ _ H locs dX8_behind_9 (rkI _) hP hD hS
set_option maxHeartbeats 4000000 in
set_option maxRecDepth 100000 in
theorem kX8_bill (l : Launch) (D : va_G) (G : Nat → ClassId) (fu : Nat) (q_t q_t_book q_t_now q_t_does q_t_bad q_t_likes q_t_sight q_t_pad q_t_then q_t_ahead q_t_most q_t_worth q_t_damp q_t_next q_t_image q_t_isKept : Nat) (t_there : Int32) (t_sights : Int32) (t_signs : Int32) (t_worseAt : Int32) (t_worseWho : Int32) (t_hours : Int32) (t_reason : Int32) (t_acts : Int32) (t_book : Nat → Int32) (t_now : Nat → Int32) (v1 : Int32) (v2 : Int32) {r : Int32} {o_t_now : Nat → Int32} (hf : fX8_bill fu t_there t_book t_now v1 v2 = some (r, o_t_now)) : rW l D G yX8_bill cX8_bill 8 (some .int) 3 103 [.ref q_t, .int v1, .int v2] [(q_t, .inr (8, [.int t_there, .ref q_t_book, .ref q_t_now, .ref q_t_does, .ref q_t_bad, .ref q_t_likes, .int t_sights, .ref q_t_sight, .int t_signs, .ref q_t_pad, .ref q_t_then, .int t_worseAt, .int t_worseWho, .int t_hours, .ref q_t_ahead, .int t_reason, .int t_acts, .ref q_t_most, .ref q_t_worth, .ref q_t_damp, .ref q_t_next, .ref q_t_image, .ref q_t_isKept])), (q_t_book, .inl (G 0, 26, .inl t_book)), (q_t_now, .inl (G 0, 26, .inl t_now))] [(q_t, .inr (8, [.int t_there, .ref q_t_book, .ref q_t_now, .ref q_t_does, .ref q_t_bad, .ref q_t_likes, .int t_sights, .ref q_t_sight, .int t_signs, .ref q_t_pad, .ref q_t_then, .int t_worseAt, .int t_worseWho, .int t_hours, .ref q_t_ahead, .int t_reason, .int t_acts, .ref q_t_most, .ref q_t_worth, .ref q_t_damp, .ref q_t_next, .ref q_t_image, .ref q_t_isKept])), (q_t_book, .inl (G 0, 26, .inl t_book)), (q_t_now, .inl (G 0, 26, .inl o_t_now))] (some (.int r)) := by
  refine rW_of (by decide) (Nat.le_of_ble_eq_true rfl) ?_
  intro p e s m args below meth c Q A hx hb hml hown hts hK hn hA RET H locs hP hD hS ls hl
  have RT : ∀ (a0_ : Int32) (a1_ : Nat → Int32), some (a0_, a1_) = some (r, o_t_now) → ∀ (pc : Nat) (ls : Array Slot) (ins : Instr) (H : Heap) (locs : List Loc), decode cX8_bill pc = .ok (ins, 1) → rk (some .int) (some (.int a0_)) ins → va_P D vwCl [(q_t, .inr (8, [.int t_there, .ref q_t_book, .ref q_t_now, .ref q_t_does, .ref q_t_bad, .ref q_t_likes, .int t_sights, .ref q_t_sight, .int t_signs, .ref q_t_pad, .ref q_t_then, .int t_worseAt, .int t_worseWho, .int t_hours, .ref q_t_ahead, .int t_reason, .int t_acts, .ref q_t_most, .ref q_t_worth, .ref q_t_damp, .ref q_t_next, .ref q_t_image, .ref q_t_isKept])), (q_t_book, .inl (G 0, 26, .inl t_book)), (q_t_now, .inl (G 0, 26, .inl a1_))] H → va_D A [(q_t, .inr (8, [.int t_there, .ref q_t_book, .ref q_t_now, .ref q_t_does, .ref q_t_bad, .ref q_t_likes, .int t_sights, .ref q_t_sight, .int t_signs, .ref q_t_pad, .ref q_t_then, .int t_worseAt, .int t_worseWho, .int t_hours, .ref q_t_ahead, .int t_reason, .int t_acts, .ref q_t_most, .ref q_t_worth, .ref q_t_damp, .ref q_t_next, .ref q_t_image, .ref q_t_isKept])), (q_t_book, .inl (G 0, 26, .inl t_book)), (q_t_now, .inl (G 0, 26, .inl a1_))] → va_S A s.heap H locs → W p l e (kR 3 103) s m args below meth c H locs 0 0 Q (F0 m pc ls [.int a0_]) := by
    intro a0_ a1_ hy; obtain ⟨rfl, rfl⟩ := sm2 hy
    exact RET
  have hown : s.vm.findClass RX8 = some m.cls := hown
  have hl : lv_has ls 8 [(0, .ref q_t), (1, .int v1), (2, .int v2)] := hl
  clear RET
  rw [fX8_bill] at hf
  refine lv_aload_n hx hb dX8_bill_0 rfl (lv_at hl 0 rfl) ?_
  refine lv_iload_n hx hb dX8_bill_1 rfl (lv_at hl 2 rfl) ?_
  obtain ⟨r1, h2, hf⟩ := bd1E hf
  refine kO_virt hx hb hml hown hts hK hn hP (kX8_isThere l D G q_t q_t_book q_t_now q_t_does q_t_bad q_t_likes q_t_sight q_t_pad q_t_then q_t_ahead q_t_most q_t_worth q_t_damp q_t_next q_t_image q_t_isKept t_there t_sights t_signs t_worseAt t_worseWho t_hours t_reason t_acts v2 h2) cvX8_73 ⟨Nat.le_of_ble_eq_true rfl, Nat.le_of_ble_eq_true rfl⟩ [0] rfl 0 rfl rfl rfl hl.1 rfl (Nat.le_of_ble_eq_true rfl) ⟨Nat.zero_le _, Nat.zero_le _⟩ dX8_bill_2 ?_
  refine lv_if_ne (tgt := 10) hx hb dX8_bill_5 (by decide) (fun c3 => ?_) (fun c3 => ?_)
  · have hf := ifn c3 hf
    refine lv_iload_n hx hb dX8_bill_10 rfl (lv_at hl 1 rfl) ?_
    refine lv_iconst (v := (0 : Int32)) hx hb dX8_bill_11 (by decide) ?_
    refine lv_sipush (v := (9999 : Int32)) hx hb dX8_bill_12 (by decide) ?_
    obtain ⟨r4, h5, hf⟩ := bd1E hf
    refine kO_stat hx hb hml hown hts hK hn hP (kX8_in l D G v1 (0 : Int32) (9999 : Int32) h5) csX8_61 ⟨Nat.le_of_ble_eq_true rfl, Nat.le_of_ble_eq_true rfl⟩ [] rfl rfl hl.1 rfl (Nat.le_of_ble_eq_true rfl) ⟨Nat.zero_le _, Nat.zero_le _⟩ dX8_bill_15 ?_
    refine lv_if_ne (tgt := 24) hx hb dX8_bill_18 (by decide) (fun c6 => ?_) (fun c6 => ?_)
    · have hf := ifn c6 hf
      refine lv_aload_n hx hb dX8_bill_24 rfl (lv_at hl 0 rfl) ?_
      obtain ⟨o7, h8, hf⟩ := bd1E hf
      refine kW_virt0 hx hb hml hown hts hK hn hA hP hD hS (kX8_asNow l D G fu q_t q_t_book q_t_now q_t_does q_t_bad q_t_likes q_t_sight q_t_pad q_t_then q_t_ahead q_t_most q_t_worth q_t_damp q_t_next q_t_image q_t_isKept t_there t_sights t_signs t_worseAt t_worseWho t_hours t_reason t_acts t_book t_now h8) cvX8_105 ⟨Nat.le_of_ble_eq_true rfl, Nat.le_of_ble_eq_true rfl⟩ [0, 1, 2] rfl rfl [true, true, true] rfl (w3 := [(q_t, .inr (8, [.int t_there, .ref q_t_book, .ref q_t_now, .ref q_t_does, .ref q_t_bad, .ref q_t_likes, .int t_sights, .ref q_t_sight, .int t_signs, .ref q_t_pad, .ref q_t_then, .int t_worseAt, .int t_worseWho, .int t_hours, .ref q_t_ahead, .int t_reason, .int t_acts, .ref q_t_most, .ref q_t_worth, .ref q_t_damp, .ref q_t_next, .ref q_t_image, .ref q_t_isKept])), (q_t_book, .inl (G 0, 26, .inl t_book)), (q_t_now, .inl (G 0, 26, .inl o7))]) [0, 1, 2] rfl rfl 0 rfl rfl rfl hl.1 rfl (Nat.le_of_ble_eq_true rfl) ⟨Nat.zero_le _, Nat.zero_le _⟩ dX8_bill_25 (fun H locs hP hD hS => ?_)
      have hP : va_P D vwCl [(q_t, .inr (8, [.int t_there, .ref q_t_book, .ref q_t_now, .ref q_t_does, .ref q_t_bad, .ref q_t_likes, .int t_sights, .ref q_t_sight, .int t_signs, .ref q_t_pad, .ref q_t_then, .int t_worseAt, .int t_worseWho, .int t_hours, .ref q_t_ahead, .int t_reason, .int t_acts, .ref q_t_most, .ref q_t_worth, .ref q_t_damp, .ref q_t_next, .ref q_t_image, .ref q_t_isKept])), (q_t_book, .inl (G 0, 26, .inl t_book)), (q_t_now, .inl (G 0, 26, .inl o7))] H := hP
      have hD : va_D A [(q_t, .inr (8, [.int t_there, .ref q_t_book, .ref q_t_now, .ref q_t_does, .ref q_t_bad, .ref q_t_likes, .int t_sights, .ref q_t_sight, .int t_signs, .ref q_t_pad, .ref q_t_then, .int t_worseAt, .int t_worseWho, .int t_hours, .ref q_t_ahead, .int t_reason, .int t_acts, .ref q_t_most, .ref q_t_worth, .ref q_t_damp, .ref q_t_next, .ref q_t_image, .ref q_t_isKept])), (q_t_book, .inl (G 0, 26, .inl t_book)), (q_t_now, .inl (G 0, 26, .inl o7))] := hD
      refine lv_iconst (v := (0 : Int32)) hx hb dX8_bill_28 (by decide) ?_
      refine lv_istore_n (lv' := [(3, .int (0 : Int32)), (0, .ref q_t), (1, .int v1), (2, .int v2)]) hx hb dX8_bill_29 rfl hl (by decide) rfl (fun ls hl => ?_)
      refine lv_iconst (v := (0 : Int32)) hx hb dX8_bill_30 (by decide) ?_
      refine lv_istore (lv' := [(4, .int (0 : Int32)), (3, .int (0 : Int32)), (0, .ref q_t), (1, .int v1), (2, .int v2)]) hx hb dX8_bill_31 hl (by decide) rfl (fun ls hl => ?_)
      obtain ⟨u40, h44, hf⟩ := bd1E hf
      have E41 : ∀ (z62 : Int32), some z62 = some u40 → ∀ (H : Heap) (locs : List Loc), va_P D vwCl [(q_t, .inr (8, [.int t_there, .ref q_t_book, .ref q_t_now, .ref q_t_does, .ref q_t_bad, .ref q_t_likes, .int t_sights, .ref q_t_sight, .int t_signs, .ref q_t_pad, .ref q_t_then, .int t_worseAt, .int t_worseWho, .int t_hours, .ref q_t_ahead, .int t_reason, .int t_acts, .ref q_t_most, .ref q_t_worth, .ref q_t_damp, .ref q_t_next, .ref q_t_image, .ref q_t_isKept])), (q_t_book, .inl (G 0, 26, .inl t_book)), (q_t_now, .inl (G 0, 26, .inl o7))] H → va_D A [(q_t, .inr (8, [.int t_there, .ref q_t_book, .ref q_t_now, .ref q_t_does, .ref q_t_bad, .ref q_t_likes, .int t_sights, .ref q_t_sight, .int t_signs, .ref q_t_pad, .ref q_t_then, .int t_worseAt, .int t_worseWho, .int t_hours, .ref q_t_ahead, .int t_reason, .int t_acts, .ref q_t_most, .ref q_t_worth, .ref q_t_damp, .ref q_t_next, .ref q_t_image, .ref q_t_isKept])), (q_t_book, .inl (G 0, 26, .inl t_book)), (q_t_now, .inl (G 0, 26, .inl o7))] → va_S A s.heap H locs → ∀ ls : Array Slot, lv_has ls 8 [(0, .ref q_t), (1, .int v1), (2, .int v2), (3, .int z62)] → W p l e (kR 3 103) s m args below meth c H locs 0 0 Q (F0 m 73 ls []) := by
        intro z62 hy; obtain rfl := sm1 hy
        intro H locs hP hD hS ls hl
        refine lv_iload_n hx hb dX8_bill_73 rfl (lv_at hl 1 rfl) ?_
        refine lv_istore (lv' := [(4, .int v1), (0, .ref q_t), (1, .int v1), (2, .int v2), (3, .int z62)]) hx hb dX8_bill_74 hl (by decide) rfl (fun ls hl => ?_)
        refine lv_iconst (v := (0 : Int32)) hx hb dX8_bill_76 (by decide) ?_
        refine lv_istore (lv' := [(5, .int (0 : Int32)), (4, .int v1), (0, .ref q_t), (1, .int v1), (2, .int v2), (3, .int z62)]) hx hb dX8_bill_77 hl (by decide) rfl (fun ls hl => ?_)
        refine lv_iconst (v := (0 : Int32)) hx hb dX8_bill_79 (by decide) ?_
        refine lv_istore (lv' := [(6, .int (0 : Int32)), (5, .int (0 : Int32)), (4, .int v1), (0, .ref q_t), (1, .int v1), (2, .int v2), (3, .int z62)]) hx hb dX8_bill_80 hl (by decide) rfl (fun ls hl => ?_)
        obtain ⟨u226, u227, h231, hf⟩ := bd2E hf
        have E228 : ∀ (z378 : Int32) (z379 : Int32), some (z378, z379) = some (u226, u227) → ∀ (H : Heap) (locs : List Loc), va_P D vwCl [(q_t, .inr (8, [.int t_there, .ref q_t_book, .ref q_t_now, .ref q_t_does, .ref q_t_bad, .ref q_t_likes, .int t_sights, .ref q_t_sight, .int t_signs, .ref q_t_pad, .ref q_t_then, .int t_worseAt, .int t_worseWho, .int t_hours, .ref q_t_ahead, .int t_reason, .int t_acts, .ref q_t_most, .ref q_t_worth, .ref q_t_damp, .ref q_t_next, .ref q_t_image, .ref q_t_isKept])), (q_t_book, .inl (G 0, 26, .inl t_book)), (q_t_now, .inl (G 0, 26, .inl o7))] H → va_D A [(q_t, .inr (8, [.int t_there, .ref q_t_book, .ref q_t_now, .ref q_t_does, .ref q_t_bad, .ref q_t_likes, .int t_sights, .ref q_t_sight, .int t_signs, .ref q_t_pad, .ref q_t_then, .int t_worseAt, .int t_worseWho, .int t_hours, .ref q_t_ahead, .int t_reason, .int t_acts, .ref q_t_most, .ref q_t_worth, .ref q_t_damp, .ref q_t_next, .ref q_t_image, .ref q_t_isKept])), (q_t_book, .inl (G 0, 26, .inl t_book)), (q_t_now, .inl (G 0, 26, .inl o7))] → va_S A s.heap H locs → ∀ ls : Array Slot, lv_has ls 8 [(0, .ref q_t), (1, .int v1), (2, .int v2), (3, .int z62), (4, .int z378), (5, .int z379)] → W p l e (kR 3 103) s m args below meth c H locs 0 0 Q (F0 m 180 ls []) := by
          intro z378 z379 hy; obtain ⟨rfl, rfl⟩ := sm2 hy
          intro H locs hP hD hS ls hl
          refine lv_iload_n hx hb dX8_bill_180 rfl (lv_at hl 1 rfl) ?_
          refine lv_aload_n hx hb dX8_bill_181 rfl (lv_at hl 0 rfl) ?_
          refine lv_iload_n hx hb dX8_bill_182 rfl (lv_at hl 2 rfl) ?_
          obtain ⟨r380, h381, hf⟩ := bd1E hf
          refine kO_virt hx hb hml hown hts hK hn hP (kX8_illsOf l D G q_t q_t_book q_t_now q_t_does q_t_bad q_t_likes q_t_sight q_t_pad q_t_then q_t_ahead q_t_most q_t_worth q_t_damp q_t_next q_t_image q_t_isKept t_there t_sights t_signs t_worseAt t_worseWho t_hours t_reason t_acts o7 v2 h381) cvX8_90 ⟨Nat.le_of_ble_eq_true rfl, Nat.le_of_ble_eq_true rfl⟩ [0, 2] rfl 0 rfl rfl rfl hl.1 rfl (Nat.le_of_ble_eq_true rfl) ⟨Nat.zero_le _, Nat.zero_le _⟩ dX8_bill_183 ?_
          refine lv_iconst (v := (1 : Int32)) hx hb dX8_bill_186 (by decide) ?_
          refine lv_iadd hx hb dX8_bill_187 ?_
          refine lv_imul hx hb dX8_bill_188 ?_
          refine lv_iload_n hx hb dX8_bill_189 rfl (lv_at hl 3 rfl) ?_
          obtain ⟨h382, hf⟩ := dvIE hf
          refine lv_idiv hx hb dX8_bill_190 h382 ?_
          generalize ((v1 * (r380 + (1 : Int32))) / z62) = x383 at hf ⊢
          refine lv_iload hx hb dX8_bill_191 (lv_at hl 5 rfl) ?_
          refine lv_iload hx hb dX8_bill_193 (lv_at hl 4 rfl) ?_
          obtain ⟨j385, h389, hf⟩ := bd1E hf
          have E387 : ∀ (z386 : Int32), some z386 = some j385 → ∀ (H : Heap) (locs : List Loc), va_P D vwCl [(q_t, .inr (8, [.int t_there, .ref q_t_book, .ref q_t_now, .ref q_t_does, .ref q_t_bad, .ref q_t_likes, .int t_sights, .ref q_t_sight, .int t_signs, .ref q_t_pad, .ref q_t_then, .int t_worseAt, .int t_worseWho, .int t_hours, .ref q_t_ahead, .int t_reason, .int t_acts, .ref q_t_most, .ref q_t_worth, .ref q_t_damp, .ref q_t_next, .ref q_t_image, .ref q_t_isKept])), (q_t_book, .inl (G 0, 26, .inl t_book)), (q_t_now, .inl (G 0, 26, .inl o7))] H → va_D A [(q_t, .inr (8, [.int t_there, .ref q_t_book, .ref q_t_now, .ref q_t_does, .ref q_t_bad, .ref q_t_likes, .int t_sights, .ref q_t_sight, .int t_signs, .ref q_t_pad, .ref q_t_then, .int t_worseAt, .int t_worseWho, .int t_hours, .ref q_t_ahead, .int t_reason, .int t_acts, .ref q_t_most, .ref q_t_worth, .ref q_t_damp, .ref q_t_next, .ref q_t_image, .ref q_t_isKept])), (q_t_book, .inl (G 0, 26, .inl t_book)), (q_t_now, .inl (G 0, 26, .inl o7))] → va_S A s.heap H locs → ∀ ls : Array Slot, lv_has ls 8 [] → W p l e (kR 3 103) s m args below meth c H locs 0 0 Q (F0 m 203 ls [.int z386, .int x383]) := by
            intro z386 hy; obtain rfl := sm1 hy
            intro H locs hP hD hS ls hl
            refine lv_iadd hx hb dX8_bill_203 ?_
            exact RT _ _ hf _ _ _ H locs dX8_bill_204 (rkI _) hP hD hS
          have hf := h389
          refine lv_icmp_ge (tgt := 202) hx hb dX8_bill_195 (by decide) (fun c388 => ?_) (fun c388 => ?_)
          · have hf := ifp c388 hf
            refine lv_iconst (v := (0 : Int32)) hx hb dX8_bill_202 (by decide) ?_
            exact E387 _ hf H locs hP hD hS ls (lv_sub hl [] rfl)
          · have hf := ifn c388 hf
            refine lv_iconst (v := (1 : Int32)) hx hb dX8_bill_198 (by decide) ?_
            refine lv_goto (tgt := 203) hx hb dX8_bill_199 (by decide) ?_
            exact E387 _ hf H locs hP hD hS ls (lv_sub hl [] rfl)
        have L229 : ∀ (k : Nat) (w223 : Int32) (w224 : Int32) (w225 : Int32), fX8_bill_82 t_there o7 v1 z62 v2 k w223 w224 w225 = some (u226, u227) → ∀ (H : Heap) (locs : List Loc), va_P D vwCl [(q_t, .inr (8, [.int t_there, .ref q_t_book, .ref q_t_now, .ref q_t_does, .ref q_t_bad, .ref q_t_likes, .int t_sights, .ref q_t_sight, .int t_signs, .ref q_t_pad, .ref q_t_then, .int t_worseAt, .int t_worseWho, .int t_hours, .ref q_t_ahead, .int t_reason, .int t_acts, .ref q_t_most, .ref q_t_worth, .ref q_t_damp, .ref q_t_next, .ref q_t_image, .ref q_t_isKept])), (q_t_book, .inl (G 0, 26, .inl t_book)), (q_t_now, .inl (G 0, 26, .inl o7))] H → va_D A [(q_t, .inr (8, [.int t_there, .ref q_t_book, .ref q_t_now, .ref q_t_does, .ref q_t_bad, .ref q_t_likes, .int t_sights, .ref q_t_sight, .int t_signs, .ref q_t_pad, .ref q_t_then, .int t_worseAt, .int t_worseWho, .int t_hours, .ref q_t_ahead, .int t_reason, .int t_acts, .ref q_t_most, .ref q_t_worth, .ref q_t_damp, .ref q_t_next, .ref q_t_image, .ref q_t_isKept])), (q_t_book, .inl (G 0, 26, .inl t_book)), (q_t_now, .inl (G 0, 26, .inl o7))] → va_S A s.heap H locs → ∀ ls : Array Slot, lv_has ls 8 [(0, .ref q_t), (1, .int v1), (2, .int v2), (3, .int z62), (4, .int w223), (5, .int w224), (6, .int w225)] → W p l e (kR 3 103) s m args below meth c H locs 0 0 Q (F0 m 82 ls []) := by
          intro k; induction k with
          | zero => intro w223 w224 w225 hf; exact nosome hf
          | succ k ih =>
            intro w223 w224 w225 hf; rw [fX8_bill_82] at hf
            intro H locs hP hD hS ls hl
            refine lv_iload hx hb dX8_bill_82 (lv_at hl 6 rfl) ?_
            refine lv_bipush (v := (6 : Int32)) hx hb dX8_bill_84 (by decide) ?_
            refine lv_icmp_ge (tgt := 180) hx hb dX8_bill_86 (by decide) (fun c234 => ?_) (fun c234 => ?_)
            · have hf := ifp c234 hf
              exact E228 _ _ hf H locs hP hD hS ls (lv_sub hl [0, 1, 2, 3, 4, 5] rfl)
            · have hf := ifn c234 hf
              refine lv_aload_n hx hb dX8_bill_89 rfl (lv_at hl 0 rfl) ?_
              refine va_get (D := D) (ci := 8) (v := .int t_there) (C := RX8) (T := TX8) (N := 23) hx hb hts inX8 hown hK hP 0 rfl rfl 0 (by decide) (hts _ lfX8_57) (fun _ h9 => h9) rfl dX8_bill_90 ?_
              refine lv_iload hx hb dX8_bill_93 (lv_at hl 6 rfl) ?_
              obtain ⟨r235, h236, hf⟩ := bd1E hf
              refine kO_stat hx hb hml hown hts hK hn hP (kX8_has l D G t_there w225 h236) csX8_65 ⟨Nat.le_of_ble_eq_true rfl, Nat.le_of_ble_eq_true rfl⟩ [] rfl rfl hl.1 rfl (Nat.le_of_ble_eq_true rfl) ⟨Nat.zero_le _, Nat.zero_le _⟩ dX8_bill_95 ?_
              obtain ⟨j304, j305, h377, hf⟩ := bd2E hf
              have E309 : ∀ (z306 : Int32) (z307 : Int32), some (z306, z307) = some (j304, j305) → ∀ (H : Heap) (locs : List Loc), va_P D vwCl [(q_t, .inr (8, [.int t_there, .ref q_t_book, .ref q_t_now, .ref q_t_does, .ref q_t_bad, .ref q_t_likes, .int t_sights, .ref q_t_sight, .int t_signs, .ref q_t_pad, .ref q_t_then, .int t_worseAt, .int t_worseWho, .int t_hours, .ref q_t_ahead, .int t_reason, .int t_acts, .ref q_t_most, .ref q_t_worth, .ref q_t_damp, .ref q_t_next, .ref q_t_image, .ref q_t_isKept])), (q_t_book, .inl (G 0, 26, .inl t_book)), (q_t_now, .inl (G 0, 26, .inl o7))] H → va_D A [(q_t, .inr (8, [.int t_there, .ref q_t_book, .ref q_t_now, .ref q_t_does, .ref q_t_bad, .ref q_t_likes, .int t_sights, .ref q_t_sight, .int t_signs, .ref q_t_pad, .ref q_t_then, .int t_worseAt, .int t_worseWho, .int t_hours, .ref q_t_ahead, .int t_reason, .int t_acts, .ref q_t_most, .ref q_t_worth, .ref q_t_damp, .ref q_t_next, .ref q_t_image, .ref q_t_isKept])), (q_t_book, .inl (G 0, 26, .inl t_book)), (q_t_now, .inl (G 0, 26, .inl o7))] → va_S A s.heap H locs → ∀ ls : Array Slot, lv_has ls 8 [(0, .ref q_t), (1, .int v1), (2, .int v2), (3, .int z62), (4, .int z306), (5, .int z307), (6, .int w225)] → W p l e (kR 3 103) s m args below meth c H locs 0 0 Q (F0 m 174 ls []) := by
                intro z306 z307 hy; obtain ⟨rfl, rfl⟩ := sm2 hy
                intro H locs hP hD hS ls hl
                obtain ⟨y308, ey308⟩ : ∃ y : Int32, y = w225 + (1 : Int32) := ⟨_, rfl⟩
                have hf := nmeU ey308 hf
                refine lv_iinc (v := y308) (lv' := [(6, .int y308), (0, .ref q_t), (1, .int v1), (2, .int v2), (3, .int z62), (4, .int z306), (5, .int z307)]) hx hb dX8_bill_174 hl (k := 6) rfl (by rw [ey308]; rfl) (by decide) rfl (fun ls hl => ?_)
                refine lv_goto (tgt := 82) hx hb dX8_bill_177 (by decide) ?_
                exact ih _ _ _ hf H locs hP hD hS ls (lv_sub hl [1, 2, 3, 4, 5, 6, 0] rfl)
              have hf := h377
              refine lv_if_eq (tgt := 174) hx hb dX8_bill_98 (by decide) (fun c310 => ?_) (fun c310 => ?_)
              · have hf := ifp c310 hf
                exact E309 _ _ hf H locs hP hD hS ls (lv_sub hl [0, 1, 2, 3, 4, 5, 6] rfl)
              · have hf := ifn c310 hf
                refine lv_iload hx hb dX8_bill_101 (lv_at hl 4 rfl) ?_
                refine lv_iload_n hx hb dX8_bill_103 rfl (lv_at hl 1 rfl) ?_
                refine lv_aload_n hx hb dX8_bill_104 rfl (lv_at hl 0 rfl) ?_
                refine lv_iload hx hb dX8_bill_105 (lv_at hl 6 rfl) ?_
                obtain ⟨r311, h312, hf⟩ := bd1E hf
                refine kO_virt hx hb hml hown hts hK hn hP (kX8_illsOf l D G q_t q_t_book q_t_now q_t_does q_t_bad q_t_likes q_t_sight q_t_pad q_t_then q_t_ahead q_t_most q_t_worth q_t_damp q_t_next q_t_image q_t_isKept t_there t_sights t_signs t_worseAt t_worseWho t_hours t_reason t_acts o7 w225 h312) cvX8_90 ⟨Nat.le_of_ble_eq_true rfl, Nat.le_of_ble_eq_true rfl⟩ [0, 2] rfl 0 rfl rfl rfl hl.1 rfl (Nat.le_of_ble_eq_true rfl) ⟨Nat.zero_le _, Nat.zero_le _⟩ dX8_bill_107 ?_
                refine lv_iconst (v := (1 : Int32)) hx hb dX8_bill_110 (by decide) ?_
                refine lv_iadd hx hb dX8_bill_111 ?_
                refine lv_imul hx hb dX8_bill_112 ?_
                refine lv_iload_n hx hb dX8_bill_113 rfl (lv_at hl 3 rfl) ?_
                obtain ⟨h313, hf⟩ := dvIE hf
                refine lv_idiv hx hb dX8_bill_114 h313 ?_
                generalize ((v1 * (r311 + (1 : Int32))) / z62) = x314 at hf ⊢
                refine lv_isub hx hb dX8_bill_115 ?_
                refine lv_topi (fun y315 ey315 => ?_)
                have hf := nmeU ey315 hf
                refine lv_istore (lv' := [(4, .int y315), (0, .ref q_t), (1, .int v1), (2, .int v2), (3, .int z62), (5, .int w224), (6, .int w225)]) hx hb dX8_bill_116 hl (by decide) rfl (fun ls hl => ?_)
                refine lv_aload_n hx hb dX8_bill_118 rfl (lv_at hl 1 rfl) ?_
                refine lv_iload hx hb dX8_bill_119 (lv_at hl 6 rfl) ?_
                obtain ⟨r316, h317, hf⟩ := bd1E hf
                refine kO_virt hx hb hml hown hts hK hn hP (kX8_illsOf l D G q_t q_t_book q_t_now q_t_does q_t_bad q_t_likes q_t_sight q_t_pad q_t_then q_t_ahead q_t_most q_t_worth q_t_damp q_t_next q_t_image q_t_isKept t_there t_sights t_signs t_worseAt t_worseWho t_hours t_reason t_acts o7 w225 h317) cvX8_90 ⟨Nat.le_of_ble_eq_true rfl, Nat.le_of_ble_eq_true rfl⟩ [0, 2] rfl 0 rfl rfl rfl hl.1 rfl (Nat.le_of_ble_eq_true rfl) ⟨Nat.zero_le _, Nat.zero_le _⟩ dX8_bill_121 ?_
                refine lv_aload_n hx hb dX8_bill_124 rfl (lv_at hl 1 rfl) ?_
                refine lv_iload_n hx hb dX8_bill_125 rfl (lv_at hl 3 rfl) ?_
                obtain ⟨r318, h319, hf⟩ := bd1E hf
                refine kO_virt hx hb hml hown hts hK hn hP (kX8_illsOf l D G q_t q_t_book q_t_now q_t_does q_t_bad q_t_likes q_t_sight q_t_pad q_t_then q_t_ahead q_t_most q_t_worth q_t_damp q_t_next q_t_image q_t_isKept t_there t_sights t_signs t_worseAt t_worseWho t_hours t_reason t_acts o7 v2 h319) cvX8_90 ⟨Nat.le_of_ble_eq_true rfl, Nat.le_of_ble_eq_true rfl⟩ [0, 2] rfl 0 rfl rfl rfl hl.1 rfl (Nat.le_of_ble_eq_true rfl) ⟨Nat.zero_le _, Nat.zero_le _⟩ dX8_bill_126 ?_
                obtain ⟨j343, h376, hf⟩ := bd1E hf
                have E352 : ∀ (z344 : Int32), some z344 = some j343 → ∀ (H : Heap) (locs : List Loc), va_P D vwCl [(q_t, .inr (8, [.int t_there, .ref q_t_book, .ref q_t_now, .ref q_t_does, .ref q_t_bad, .ref q_t_likes, .int t_sights, .ref q_t_sight, .int t_signs, .ref q_t_pad, .ref q_t_then, .int t_worseAt, .int t_worseWho, .int t_hours, .ref q_t_ahead, .int t_reason, .int t_acts, .ref q_t_most, .ref q_t_worth, .ref q_t_damp, .ref q_t_next, .ref q_t_image, .ref q_t_isKept])), (q_t_book, .inl (G 0, 26, .inl t_book)), (q_t_now, .inl (G 0, 26, .inl o7))] H → va_D A [(q_t, .inr (8, [.int t_there, .ref q_t_book, .ref q_t_now, .ref q_t_does, .ref q_t_bad, .ref q_t_likes, .int t_sights, .ref q_t_sight, .int t_signs, .ref q_t_pad, .ref q_t_then, .int t_worseAt, .int t_worseWho, .int t_hours, .ref q_t_ahead, .int t_reason, .int t_acts, .ref q_t_most, .ref q_t_worth, .ref q_t_damp, .ref q_t_next, .ref q_t_image, .ref q_t_isKept])), (q_t_book, .inl (G 0, 26, .inl t_book)), (q_t_now, .inl (G 0, 26, .inl o7))] → va_S A s.heap H locs → ∀ ls : Array Slot, lv_has ls 8 [(0, .ref q_t), (1, .int v1), (2, .int v2), (3, .int z62), (4, .int y315), (5, .int w224), (6, .int w225)] → W p l e (kR 3 103) s m args below meth c H locs 0 0 Q (F0 m 157 ls [.int z344]) := by
                  intro z344 hy; obtain rfl := sm1 hy
                  intro H locs hP hD hS ls hl
                  refine lv_istore (lv' := [(7, .int z344), (0, .ref q_t), (1, .int v1), (2, .int v2), (3, .int z62), (4, .int y315), (5, .int w224), (6, .int w225)]) hx hb dX8_bill_157 hl (by decide) rfl (fun ls hl => ?_)
                  refine lv_iload hx hb dX8_bill_159 (lv_at hl 6 rfl) ?_
                  refine lv_iload hx hb dX8_bill_161 (lv_at hl 0 rfl) ?_
                  obtain ⟨j346, h351, hf⟩ := bd1E hf
                  have E349 : ∀ (z347 : Int32), some z347 = some j346 → ∀ (H : Heap) (locs : List Loc), va_P D vwCl [(q_t, .inr (8, [.int t_there, .ref q_t_book, .ref q_t_now, .ref q_t_does, .ref q_t_bad, .ref q_t_likes, .int t_sights, .ref q_t_sight, .int t_signs, .ref q_t_pad, .ref q_t_then, .int t_worseAt, .int t_worseWho, .int t_hours, .ref q_t_ahead, .int t_reason, .int t_acts, .ref q_t_most, .ref q_t_worth, .ref q_t_damp, .ref q_t_next, .ref q_t_image, .ref q_t_isKept])), (q_t_book, .inl (G 0, 26, .inl t_book)), (q_t_now, .inl (G 0, 26, .inl o7))] H → va_D A [(q_t, .inr (8, [.int t_there, .ref q_t_book, .ref q_t_now, .ref q_t_does, .ref q_t_bad, .ref q_t_likes, .int t_sights, .ref q_t_sight, .int t_signs, .ref q_t_pad, .ref q_t_then, .int t_worseAt, .int t_worseWho, .int t_hours, .ref q_t_ahead, .int t_reason, .int t_acts, .ref q_t_most, .ref q_t_worth, .ref q_t_damp, .ref q_t_next, .ref q_t_image, .ref q_t_isKept])), (q_t_book, .inl (G 0, 26, .inl t_book)), (q_t_now, .inl (G 0, 26, .inl o7))] → va_S A s.heap H locs → ∀ ls : Array Slot, lv_has ls 8 [(0, .ref q_t), (1, .int v1), (2, .int v2), (3, .int z62), (4, .int y315), (6, .int w225)] → W p l e (kR 3 103) s m args below meth c H locs 0 0 Q (F0 m 171 ls [.int z347, .int w224]) := by
                    intro z347 hy; obtain rfl := sm1 hy
                    intro H locs hP hD hS ls hl
                    refine lv_iadd hx hb dX8_bill_171 ?_
                    refine lv_topi (fun y348 ey348 => ?_)
                    have hf := nmeU ey348 hf
                    refine lv_istore (lv' := [(5, .int y348), (0, .ref q_t), (1, .int v1), (2, .int v2), (3, .int z62), (4, .int y315), (6, .int w225)]) hx hb dX8_bill_172 hl (by decide) rfl (fun ls hl => ?_)
                    exact E309 _ _ hf H locs hP hD hS ls (lv_sub hl [1, 2, 3, 4, 5, 0, 6] rfl)
                  have hf := h351
                  refine lv_if_eq (tgt := 170) hx hb dX8_bill_163 (by decide) (fun c350 => ?_) (fun c350 => ?_)
                  · have hf := ifp c350 hf
                    refine lv_iconst (v := (0 : Int32)) hx hb dX8_bill_170 (by decide) ?_
                    exact E349 _ hf H locs hP hD hS ls (lv_sub hl [1, 2, 3, 4, 5, 7] rfl)
                  · have hf := ifn c350 hf
                    refine lv_iconst (v := (1 : Int32)) hx hb dX8_bill_166 (by decide) ?_
                    refine lv_goto (tgt := 171) hx hb dX8_bill_167 (by decide) ?_
                    exact E349 _ hf H locs hP hD hS ls (lv_sub hl [1, 2, 3, 4, 5, 7] rfl)
                have hf := h376
                refine lv_icmp_gt (tgt := 152) hx hb dX8_bill_129 (by decide) (fun c353 => ?_) (fun c353 => ?_)
                · have hf := ifp c353 hf
                  refine lv_iconst (v := (1 : Int32)) hx hb dX8_bill_152 (by decide) ?_
                  refine lv_goto (tgt := 157) hx hb dX8_bill_153 (by decide) ?_
                  exact E352 _ hf H locs hP hD hS ls (lv_sub hl [1, 2, 3, 4, 0, 5, 6] rfl)
                · have hf := ifn c353 hf
                  refine lv_aload_n hx hb dX8_bill_132 rfl (lv_at hl 1 rfl) ?_
                  refine lv_iload hx hb dX8_bill_133 (lv_at hl 6 rfl) ?_
                  obtain ⟨r354, h355, hf⟩ := bd1E hf
                  refine kO_virt hx hb hml hown hts hK hn hP (kX8_illsOf l D G q_t q_t_book q_t_now q_t_does q_t_bad q_t_likes q_t_sight q_t_pad q_t_then q_t_ahead q_t_most q_t_worth q_t_damp q_t_next q_t_image q_t_isKept t_there t_sights t_signs t_worseAt t_worseWho t_hours t_reason t_acts o7 w225 h355) cvX8_90 ⟨Nat.le_of_ble_eq_true rfl, Nat.le_of_ble_eq_true rfl⟩ [0, 2] rfl 0 rfl rfl rfl hl.1 rfl (Nat.le_of_ble_eq_true rfl) ⟨Nat.zero_le _, Nat.zero_le _⟩ dX8_bill_135 ?_
                  refine lv_aload_n hx hb dX8_bill_138 rfl (lv_at hl 1 rfl) ?_
                  refine lv_iload_n hx hb dX8_bill_139 rfl (lv_at hl 3 rfl) ?_
                  obtain ⟨r356, h357, hf⟩ := bd1E hf
                  refine kO_virt hx hb hml hown hts hK hn hP (kX8_illsOf l D G q_t q_t_book q_t_now q_t_does q_t_bad q_t_likes q_t_sight q_t_pad q_t_then q_t_ahead q_t_most q_t_worth q_t_damp q_t_next q_t_image q_t_isKept t_there t_sights t_signs t_worseAt t_worseWho t_hours t_reason t_acts o7 v2 h357) cvX8_90 ⟨Nat.le_of_ble_eq_true rfl, Nat.le_of_ble_eq_true rfl⟩ [0, 2] rfl 0 rfl rfl rfl hl.1 rfl (Nat.le_of_ble_eq_true rfl) ⟨Nat.zero_le _, Nat.zero_le _⟩ dX8_bill_140 ?_
                  obtain ⟨j365, h375, hf⟩ := bd1E hf
                  have E367 : ∀ (z366 : Int32), some z366 = some j365 → ∀ (H : Heap) (locs : List Loc), va_P D vwCl [(q_t, .inr (8, [.int t_there, .ref q_t_book, .ref q_t_now, .ref q_t_does, .ref q_t_bad, .ref q_t_likes, .int t_sights, .ref q_t_sight, .int t_signs, .ref q_t_pad, .ref q_t_then, .int t_worseAt, .int t_worseWho, .int t_hours, .ref q_t_ahead, .int t_reason, .int t_acts, .ref q_t_most, .ref q_t_worth, .ref q_t_damp, .ref q_t_next, .ref q_t_image, .ref q_t_isKept])), (q_t_book, .inl (G 0, 26, .inl t_book)), (q_t_now, .inl (G 0, 26, .inl o7))] H → va_D A [(q_t, .inr (8, [.int t_there, .ref q_t_book, .ref q_t_now, .ref q_t_does, .ref q_t_bad, .ref q_t_likes, .int t_sights, .ref q_t_sight, .int t_signs, .ref q_t_pad, .ref q_t_then, .int t_worseAt, .int t_worseWho, .int t_hours, .ref q_t_ahead, .int t_reason, .int t_acts, .ref q_t_most, .ref q_t_worth, .ref q_t_damp, .ref q_t_next, .ref q_t_image, .ref q_t_isKept])), (q_t_book, .inl (G 0, 26, .inl t_book)), (q_t_now, .inl (G 0, 26, .inl o7))] → va_S A s.heap H locs → ∀ ls : Array Slot, lv_has ls 8 [(0, .ref q_t), (1, .int v1), (2, .int v2), (3, .int z62), (4, .int y315), (5, .int w224), (6, .int w225)] → W p l e (kR 3 103) s m args below meth c H locs 0 0 Q (F0 m 157 ls [.int z366]) := by
                    intro z366 hy; obtain rfl := sm1 hy
                    intro H locs hP hD hS ls hl
                    exact E352 _ hf H locs hP hD hS ls (lv_sub hl [0, 1, 2, 3, 4, 5, 6] rfl)
                  have hf := h375
                  refine lv_icmp_ne (tgt := 156) hx hb dX8_bill_143 (by decide) (fun c368 => ?_) (fun c368 => ?_)
                  · have hf := ifn c368 hf
                    refine lv_iconst (v := (0 : Int32)) hx hb dX8_bill_156 (by decide) ?_
                    exact E367 _ hf H locs hP hD hS ls (lv_sub hl [1, 2, 3, 4, 0, 5, 6] rfl)
                  · have hf := ifp c368 hf
                    refine lv_iload hx hb dX8_bill_146 (lv_at hl 6 rfl) ?_
                    refine lv_iload_n hx hb dX8_bill_148 rfl (lv_at hl 3 rfl) ?_
                    obtain ⟨j370, h374, hf⟩ := bd1E hf
                    have E372 : ∀ (z371 : Int32), some z371 = some j370 → ∀ (H : Heap) (locs : List Loc), va_P D vwCl [(q_t, .inr (8, [.int t_there, .ref q_t_book, .ref q_t_now, .ref q_t_does, .ref q_t_bad, .ref q_t_likes, .int t_sights, .ref q_t_sight, .int t_signs, .ref q_t_pad, .ref q_t_then, .int t_worseAt, .int t_worseWho, .int t_hours, .ref q_t_ahead, .int t_reason, .int t_acts, .ref q_t_most, .ref q_t_worth, .ref q_t_damp, .ref q_t_next, .ref q_t_image, .ref q_t_isKept])), (q_t_book, .inl (G 0, 26, .inl t_book)), (q_t_now, .inl (G 0, 26, .inl o7))] H → va_D A [(q_t, .inr (8, [.int t_there, .ref q_t_book, .ref q_t_now, .ref q_t_does, .ref q_t_bad, .ref q_t_likes, .int t_sights, .ref q_t_sight, .int t_signs, .ref q_t_pad, .ref q_t_then, .int t_worseAt, .int t_worseWho, .int t_hours, .ref q_t_ahead, .int t_reason, .int t_acts, .ref q_t_most, .ref q_t_worth, .ref q_t_damp, .ref q_t_next, .ref q_t_image, .ref q_t_isKept])), (q_t_book, .inl (G 0, 26, .inl t_book)), (q_t_now, .inl (G 0, 26, .inl o7))] → va_S A s.heap H locs → ∀ ls : Array Slot, lv_has ls 8 [(0, .ref q_t), (1, .int v1), (2, .int v2), (3, .int z62), (4, .int y315), (5, .int w224), (6, .int w225)] → W p l e (kR 3 103) s m args below meth c H locs 0 0 Q (F0 m 157 ls [.int z371]) := by
                      intro z371 hy; obtain rfl := sm1 hy
                      intro H locs hP hD hS ls hl
                      exact E367 _ hf H locs hP hD hS ls (lv_sub hl [0, 1, 2, 3, 4, 5, 6] rfl)
                    have hf := h374
                    refine lv_icmp_ge (tgt := 156) hx hb dX8_bill_149 (by decide) (fun c373 => ?_) (fun c373 => ?_)
                    · have hf := ifp c373 hf
                      refine lv_iconst (v := (0 : Int32)) hx hb dX8_bill_156 (by decide) ?_
                      exact E372 _ hf H locs hP hD hS ls (lv_sub hl [1, 2, 3, 4, 0, 5, 6] rfl)
                    · have hf := ifn c373 hf
                      refine lv_iconst (v := (1 : Int32)) hx hb dX8_bill_152 (by decide) ?_
                      refine lv_goto (tgt := 157) hx hb dX8_bill_153 (by decide) ?_
                      exact E372 _ hf H locs hP hD hS ls (lv_sub hl [1, 2, 3, 4, 0, 5, 6] rfl)
        exact L229 fu v1 (0 : Int32) (0 : Int32) h231 H locs hP hD hS ls (lv_sub hl [3, 4, 5, 6, 2, 1, 0] rfl)
      have L42 : ∀ (k : Nat) (w38 : Int32) (w39 : Int32), fX8_bill_33 t_there o7 k w38 w39 = some u40 → ∀ (H : Heap) (locs : List Loc), va_P D vwCl [(q_t, .inr (8, [.int t_there, .ref q_t_book, .ref q_t_now, .ref q_t_does, .ref q_t_bad, .ref q_t_likes, .int t_sights, .ref q_t_sight, .int t_signs, .ref q_t_pad, .ref q_t_then, .int t_worseAt, .int t_worseWho, .int t_hours, .ref q_t_ahead, .int t_reason, .int t_acts, .ref q_t_most, .ref q_t_worth, .ref q_t_damp, .ref q_t_next, .ref q_t_image, .ref q_t_isKept])), (q_t_book, .inl (G 0, 26, .inl t_book)), (q_t_now, .inl (G 0, 26, .inl o7))] H → va_D A [(q_t, .inr (8, [.int t_there, .ref q_t_book, .ref q_t_now, .ref q_t_does, .ref q_t_bad, .ref q_t_likes, .int t_sights, .ref q_t_sight, .int t_signs, .ref q_t_pad, .ref q_t_then, .int t_worseAt, .int t_worseWho, .int t_hours, .ref q_t_ahead, .int t_reason, .int t_acts, .ref q_t_most, .ref q_t_worth, .ref q_t_damp, .ref q_t_next, .ref q_t_image, .ref q_t_isKept])), (q_t_book, .inl (G 0, 26, .inl t_book)), (q_t_now, .inl (G 0, 26, .inl o7))] → va_S A s.heap H locs → ∀ ls : Array Slot, lv_has ls 8 [(0, .ref q_t), (1, .int v1), (2, .int v2), (3, .int w38), (4, .int w39)] → W p l e (kR 3 103) s m args below meth c H locs 0 0 Q (F0 m 33 ls []) := by
        intro k; induction k with
        | zero => intro w38 w39 hf; exact nosome hf
        | succ k ih =>
          intro w38 w39 hf; rw [fX8_bill_33] at hf
          intro H locs hP hD hS ls hl
          refine lv_iload hx hb dX8_bill_33 (lv_at hl 4 rfl) ?_
          refine lv_bipush (v := (6 : Int32)) hx hb dX8_bill_35 (by decide) ?_
          refine lv_icmp_ge (tgt := 73) hx hb dX8_bill_37 (by decide) (fun c47 => ?_) (fun c47 => ?_)
          · have hf := ifp c47 hf
            exact E41 _ hf H locs hP hD hS ls (lv_sub hl [0, 1, 2, 3] rfl)
          · have hf := ifn c47 hf
            refine lv_iload_n hx hb dX8_bill_40 rfl (lv_at hl 3 rfl) ?_
            refine lv_aload_n hx hb dX8_bill_41 rfl (lv_at hl 0 rfl) ?_
            refine va_get (D := D) (ci := 8) (v := .int t_there) (C := RX8) (T := TX8) (N := 23) hx hb hts inX8 hown hK hP 0 rfl rfl 0 (by decide) (hts _ lfX8_57) (fun _ h9 => h9) rfl dX8_bill_42 ?_
            refine lv_iload hx hb dX8_bill_45 (lv_at hl 4 rfl) ?_
            obtain ⟨r48, h49, hf⟩ := bd1E hf
            refine kO_stat hx hb hml hown hts hK hn hP (kX8_has l D G t_there w39 h49) csX8_65 ⟨Nat.le_of_ble_eq_true rfl, Nat.le_of_ble_eq_true rfl⟩ [] rfl rfl hl.1 rfl (Nat.le_of_ble_eq_true rfl) ⟨Nat.zero_le _, Nat.zero_le _⟩ dX8_bill_47 ?_
            obtain ⟨j53, h61, hf⟩ := bd1E hf
            have E57 : ∀ (z54 : Int32), some z54 = some j53 → ∀ (H : Heap) (locs : List Loc), va_P D vwCl [(q_t, .inr (8, [.int t_there, .ref q_t_book, .ref q_t_now, .ref q_t_does, .ref q_t_bad, .ref q_t_likes, .int t_sights, .ref q_t_sight, .int t_signs, .ref q_t_pad, .ref q_t_then, .int t_worseAt, .int t_worseWho, .int t_hours, .ref q_t_ahead, .int t_reason, .int t_acts, .ref q_t_most, .ref q_t_worth, .ref q_t_damp, .ref q_t_next, .ref q_t_image, .ref q_t_isKept])), (q_t_book, .inl (G 0, 26, .inl t_book)), (q_t_now, .inl (G 0, 26, .inl o7))] H → va_D A [(q_t, .inr (8, [.int t_there, .ref q_t_book, .ref q_t_now, .ref q_t_does, .ref q_t_bad, .ref q_t_likes, .int t_sights, .ref q_t_sight, .int t_signs, .ref q_t_pad, .ref q_t_then, .int t_worseAt, .int t_worseWho, .int t_hours, .ref q_t_ahead, .int t_reason, .int t_acts, .ref q_t_most, .ref q_t_worth, .ref q_t_damp, .ref q_t_next, .ref q_t_image, .ref q_t_isKept])), (q_t_book, .inl (G 0, 26, .inl t_book)), (q_t_now, .inl (G 0, 26, .inl o7))] → va_S A s.heap H locs → ∀ ls : Array Slot, lv_has ls 8 [(0, .ref q_t), (1, .int v1), (2, .int v2), (4, .int w39)] → W p l e (kR 3 103) s m args below meth c H locs 0 0 Q (F0 m 65 ls [.int z54, .int w38]) := by
              intro z54 hy; obtain rfl := sm1 hy
              intro H locs hP hD hS ls hl
              refine lv_iadd hx hb dX8_bill_65 ?_
              refine lv_topi (fun y55 ey55 => ?_)
              have hf := nmeU ey55 hf
              refine lv_istore_n (lv' := [(3, .int y55), (0, .ref q_t), (1, .int v1), (2, .int v2), (4, .int w39)]) hx hb dX8_bill_66 rfl hl (by decide) rfl (fun ls hl => ?_)
              obtain ⟨y56, ey56⟩ : ∃ y : Int32, y = w39 + (1 : Int32) := ⟨_, rfl⟩
              have hf := nmeU ey56 hf
              refine lv_iinc (v := y56) (lv' := [(4, .int y56), (3, .int y55), (0, .ref q_t), (1, .int v1), (2, .int v2)]) hx hb dX8_bill_67 hl (k := 4) rfl (by rw [ey56]; rfl) (by decide) rfl (fun ls hl => ?_)
              refine lv_goto (tgt := 33) hx hb dX8_bill_70 (by decide) ?_
              exact ih _ _ hf H locs hP hD hS ls (lv_sub hl [2, 3, 4, 1, 0] rfl)
            have hf := h61
            refine lv_if_eq (tgt := 64) hx hb dX8_bill_50 (by decide) (fun c58 => ?_) (fun c58 => ?_)
            · have hf := ifp c58 hf
              refine lv_iconst (v := (0 : Int32)) hx hb dX8_bill_64 (by decide) ?_
              exact E57 _ hf H locs hP hD hS ls (lv_sub hl [0, 1, 2, 4] rfl)
            · have hf := ifn c58 hf
              refine lv_aload_n hx hb dX8_bill_53 rfl (lv_at hl 0 rfl) ?_
              refine lv_iload hx hb dX8_bill_54 (lv_at hl 4 rfl) ?_
              obtain ⟨r59, h60, hf⟩ := bd1E hf
              refine kO_virt hx hb hml hown hts hK hn hP (kX8_illsOf l D G q_t q_t_book q_t_now q_t_does q_t_bad q_t_likes q_t_sight q_t_pad q_t_then q_t_ahead q_t_most q_t_worth q_t_damp q_t_next q_t_image q_t_isKept t_there t_sights t_signs t_worseAt t_worseWho t_hours t_reason t_acts o7 w39 h60) cvX8_90 ⟨Nat.le_of_ble_eq_true rfl, Nat.le_of_ble_eq_true rfl⟩ [0, 2] rfl 0 rfl rfl rfl hl.1 rfl (Nat.le_of_ble_eq_true rfl) ⟨Nat.zero_le _, Nat.zero_le _⟩ dX8_bill_56 ?_
              refine lv_iconst (v := (1 : Int32)) hx hb dX8_bill_59 (by decide) ?_
              refine lv_iadd hx hb dX8_bill_60 ?_
              refine lv_goto (tgt := 65) hx hb dX8_bill_61 (by decide) ?_
              exact E57 _ hf H locs hP hD hS ls (lv_sub hl [0, 1, 2, 4] rfl)
      exact L42 fu (0 : Int32) (0 : Int32) h44 H locs hP hD hS ls (lv_sub hl [2, 3, 4, 1, 0] rfl)
    · have hf := ifp c6 hf
      refine lv_bipush (v := (-2 : Int32)) hx hb dX8_bill_21 (by decide) ?_
      exact RT _ _ hf _ _ _ H locs dX8_bill_23 (rkI _) hP hD hS
  · have hf := ifp c3 hf
    refine lv_iconst (v := (-1 : Int32)) hx hb dX8_bill_8 (by decide) ?_
    exact RT _ _ hf _ _ _ H locs dX8_bill_9 (rkI _) hP hD hS
set_option maxHeartbeats 4000000 in
set_option maxRecDepth 100000 in
theorem kX8_bits (l : Launch) (D : va_G) (G : Nat → ClassId) (fu : Nat) (v0 : Int32) {r : Int32} (hf : fX8_bits fu v0 = some r) : rO l D G yX8_bits cX8_bits 3 (some .int) 1 60 [.int v0] [] (some (.int r)) := by
  refine rO_of (by decide) (Nat.le_of_ble_eq_true rfl) ?_
  intro p e s m args below meth c Q hx hb hml hown hts hK hn hP RET ls hl
  have RT : ∀ (a0_ : Int32), some a0_ = some r → ∀ (pc : Nat) (ls : Array Slot) (ins : Instr), decode cX8_bits pc = .ok (ins, 1) → rk (some .int) (some (.int a0_)) ins → W p l e (kR 1 60) s m args below meth c s.heap [] 0 0 Q (F0 m pc ls [.int a0_]) := by
    intro a0_ hy; obtain rfl := sm1 hy
    exact RET
  have hown : s.vm.findClass RX8 = some m.cls := hown
  have hl : lv_has ls 3 [(0, .int v0)] := hl
  clear RET
  rw [fX8_bits] at hf
  refine lv_iconst (v := (0 : Int32)) hx hb dX8_bits_0 (by decide) ?_
  refine lv_istore_n (lv' := [(1, .int (0 : Int32)), (0, .int v0)]) hx hb dX8_bits_1 rfl hl (by decide) rfl (fun ls hl => ?_)
  refine lv_iconst (v := (0 : Int32)) hx hb dX8_bits_2 (by decide) ?_
  refine lv_istore_n (lv' := [(2, .int (0 : Int32)), (1, .int (0 : Int32)), (0, .int v0)]) hx hb dX8_bits_3 rfl hl (by decide) rfl (fun ls hl => ?_)
  obtain ⟨u9, h13, hf⟩ := bd1E hf
  have E10 : ∀ (z19 : Int32), some z19 = some u9 → ∀ ls : Array Slot, lv_has ls 3 [(1, .int z19)] → W p l e (kR 1 60) s m args below meth c s.heap [] 0 0 Q (F0 m 24 ls []) := by
    intro z19 hy; obtain rfl := sm1 hy
    intro ls hl
    refine lv_iload_n hx hb dX8_bits_24 rfl (lv_at hl 0 rfl) ?_
    exact RT _ hf _ _ _ dX8_bits_25 (rkI _)
  have L11 : ∀ (k : Nat) (w7 : Int32) (w8 : Int32), fX8_bits_4 v0 k w7 w8 = some u9 → ∀ ls : Array Slot, lv_has ls 3 [(0, .int v0), (1, .int w7), (2, .int w8)] → W p l e (kR 1 60) s m args below meth c s.heap [] 0 0 Q (F0 m 4 ls []) := by
    intro k; induction k with
    | zero => intro w7 w8 hf; exact nosome hf
    | succ k ih =>
      intro w7 w8 hf; rw [fX8_bits_4] at hf
      intro ls hl
      refine lv_iload_n hx hb dX8_bits_4 rfl (lv_at hl 2 rfl) ?_
      refine lv_bipush (v := (6 : Int32)) hx hb dX8_bits_5 (by decide) ?_
      refine lv_icmp_ge (tgt := 24) hx hb dX8_bits_7 (by decide) (fun c16 => ?_) (fun c16 => ?_)
      · have hf := ifp c16 hf
        exact E10 _ hf ls (lv_sub hl [1] rfl)
      · have hf := ifn c16 hf
        refine lv_iload_n hx hb dX8_bits_10 rfl (lv_at hl 1 rfl) ?_
        refine lv_iload_n hx hb dX8_bits_11 rfl (lv_at hl 0 rfl) ?_
        refine lv_iload_n hx hb dX8_bits_12 rfl (lv_at hl 2 rfl) ?_
        refine lv_ishr hx hb dX8_bits_13 ?_
        refine lv_iconst (v := (1 : Int32)) hx hb dX8_bits_14 (by decide) ?_
        refine lv_iand hx hb dX8_bits_15 ?_
        refine lv_iadd hx hb dX8_bits_16 ?_
        refine lv_topi (fun y17 ey17 => ?_)
        have hf := nmeU ey17 hf
        refine lv_istore_n (lv' := [(1, .int y17), (0, .int v0), (2, .int w8)]) hx hb dX8_bits_17 rfl hl (by decide) rfl (fun ls hl => ?_)
        obtain ⟨y18, ey18⟩ : ∃ y : Int32, y = w8 + (1 : Int32) := ⟨_, rfl⟩
        have hf := nmeU ey18 hf
        refine lv_iinc (v := y18) (lv' := [(2, .int y18), (1, .int y17), (0, .int v0)]) hx hb dX8_bits_18 hl (k := 2) rfl (by rw [ey18]; rfl) (by decide) rfl (fun ls hl => ?_)
        refine lv_goto (tgt := 4) hx hb dX8_bits_21 (by decide) ?_
        exact ih _ _ hf ls (lv_sub hl [2, 1, 0] rfl)
  exact L11 fu (0 : Int32) (0 : Int32) h13 ls (lv_sub hl [2, 1, 0] rfl)
set_option maxHeartbeats 4000000 in
set_option maxRecDepth 100000 in
theorem kX8_fits (l : Launch) (D : va_G) (G : Nat → ClassId) (fu : Nat) (q_t q_t_book q_t_now q_t_does q_t_bad q_t_likes q_t_sight q_t_pad q_t_then q_t_ahead q_t_most q_t_worth q_t_damp q_t_next q_t_image q_t_isKept : Nat) (t_there : Int32) (t_sights : Int32) (t_signs : Int32) (t_worseAt : Int32) (t_worseWho : Int32) (t_hours : Int32) (t_reason : Int32) (t_acts : Int32) (t_sight : Nat → Int32) (v1 : Int32) {r : Int32} (hf : fX8_fits fu t_sights t_sight v1 = some r) : rO l D G yX8_fits cX8_fits 6 (some .boolean) 2 80 [.ref q_t, .int v1] [(q_t, .inr (8, [.int t_there, .ref q_t_book, .ref q_t_now, .ref q_t_does, .ref q_t_bad, .ref q_t_likes, .int t_sights, .ref q_t_sight, .int t_signs, .ref q_t_pad, .ref q_t_then, .int t_worseAt, .int t_worseWho, .int t_hours, .ref q_t_ahead, .int t_reason, .int t_acts, .ref q_t_most, .ref q_t_worth, .ref q_t_damp, .ref q_t_next, .ref q_t_image, .ref q_t_isKept])), (q_t_sight, .inl (G 0, 24, .inl t_sight))] (some (.int r)) := by
  refine rO_of (by decide) (Nat.le_of_ble_eq_true rfl) ?_
  intro p e s m args below meth c Q hx hb hml hown hts hK hn hP RET ls hl
  have RT : ∀ (a0_ : Int32), some a0_ = some r → ∀ (pc : Nat) (ls : Array Slot) (ins : Instr), decode cX8_fits pc = .ok (ins, 1) → rk (some .boolean) (some (.int a0_)) ins → W p l e (kR 2 80) s m args below meth c s.heap [] 0 0 Q (F0 m pc ls [.int a0_]) := by
    intro a0_ hy; obtain rfl := sm1 hy
    exact RET
  have hown : s.vm.findClass RX8 = some m.cls := hown
  have hl : lv_has ls 6 [(0, .ref q_t), (1, .int v1)] := hl
  clear RET
  rw [fX8_fits] at hf
  refine lv_iconst (v := (1 : Int32)) hx hb dX8_fits_0 (by decide) ?_
  refine lv_istore_n (lv' := [(2, .int (1 : Int32)), (0, .ref q_t), (1, .int v1)]) hx hb dX8_fits_1 rfl hl (by decide) rfl (fun ls hl => ?_)
  refine lv_iconst (v := (0 : Int32)) hx hb dX8_fits_2 (by decide) ?_
  refine lv_istore_n (lv' := [(3, .int (0 : Int32)), (2, .int (1 : Int32)), (0, .ref q_t), (1, .int v1)]) hx hb dX8_fits_3 rfl hl (by decide) rfl (fun ls hl => ?_)
  obtain ⟨u72, h76, hf⟩ := bd1E hf
  have E73 : ∀ (z136 : Int32), some z136 = some u72 → ∀ ls : Array Slot, lv_has ls 6 [(2, .int z136)] → W p l e (kR 2 80) s m args below meth c s.heap [] 0 0 Q (F0 m 86 ls []) := by
    intro z136 hy; obtain rfl := sm1 hy
    intro ls hl
    refine lv_iload_n hx hb dX8_fits_86 rfl (lv_at hl 0 rfl) ?_
    obtain ⟨h01, hf⟩ := rzE hf
    exact RT _ hf _ _ _ dX8_fits_87 (rkZ h01)
  have L74 : ∀ (k : Nat) (w70 : Int32) (w71 : Int32), fX8_fits_4 fu t_sights t_sight v1 k w70 w71 = some u72 → ∀ ls : Array Slot, lv_has ls 6 [(0, .ref q_t), (1, .int v1), (2, .int w70), (3, .int w71)] → W p l e (kR 2 80) s m args below meth c s.heap [] 0 0 Q (F0 m 4 ls []) := by
    intro k; induction k with
    | zero => intro w70 w71 hf; exact nosome hf
    | succ k ih =>
      intro w70 w71 hf; rw [fX8_fits_4] at hf
      intro ls hl
      refine lv_iload_n hx hb dX8_fits_4 rfl (lv_at hl 3 rfl) ?_
      refine lv_aload_n hx hb dX8_fits_5 rfl (lv_at hl 0 rfl) ?_
      refine va_get (D := D) (ci := 8) (v := .int t_sights) (C := RX8) (T := TX8) (N := 23) hx hb hts inX8 hown hK hP 0 rfl rfl 6 (by decide) (hts _ lfX8_150) (fun _ h9 => h9) rfl dX8_fits_6 ?_
      refine lv_icmp_ge (tgt := 86) hx hb dX8_fits_9 (by decide) (fun c79 => ?_) (fun c79 => ?_)
      · have hf := ifp c79 hf
        exact E73 _ hf ls (lv_sub hl [2] rfl)
      · have hf := ifn c79 hf
        refine lv_aload_n hx hb dX8_fits_12 rfl (lv_at hl 0 rfl) ?_
        refine va_get (D := D) (ci := 8) (v := .ref q_t_sight) (C := RX8) (T := TX8) (N := 23) hx hb hts inX8 hown hK hP 0 rfl rfl 7 (by decide) (hts _ lfX8_25) (fun _ h9 => h9) rfl dX8_fits_13 ?_
        refine lv_iconst (v := (3 : Int32)) hx hb dX8_fits_16 (by decide) ?_
        refine lv_iload_n hx hb dX8_fits_17 rfl (lv_at hl 3 rfl) ?_
        refine lv_imul hx hb dX8_fits_18 ?_
        obtain ⟨x80, ex80, ix80, hf⟩ := ldIE hf
        refine k_iald hx hb hK hP 1 0 rfl rfl ix80 ex80 dX8_fits_19 ?_
        refine lv_istore (lv' := [(4, .int x80), (0, .ref q_t), (1, .int v1), (2, .int w70), (3, .int w71)]) hx hb dX8_fits_20 hl (by decide) rfl (fun ls hl => ?_)
        refine lv_iconst (v := (0 : Int32)) hx hb dX8_fits_22 (by decide) ?_
        refine lv_istore (lv' := [(5, .int (0 : Int32)), (4, .int x80), (0, .ref q_t), (1, .int v1), (2, .int w70), (3, .int w71)]) hx hb dX8_fits_23 hl (by decide) rfl (fun ls hl => ?_)
        obtain ⟨u102, h106, hf⟩ := bd1E hf
        have E103 : ∀ (z114 : Int32), some z114 = some u102 → ∀ ls : Array Slot, lv_has ls 6 [(0, .ref q_t), (1, .int v1), (2, .int w70), (3, .int w71), (4, .int z114)] → W p l e (kR 2 80) s m args below meth c s.heap [] 0 0 Q (F0 m 55 ls []) := by
          intro z114 hy; obtain rfl := sm1 hy
          intro ls hl
          refine lv_iload_n hx hb dX8_fits_55 rfl (lv_at hl 2 rfl) ?_
          obtain ⟨j123, h135, hf⟩ := bd1E hf
          have E126 : ∀ (z124 : Int32), some z124 = some j123 → ∀ ls : Array Slot, lv_has ls 6 [(0, .ref q_t), (1, .int v1), (3, .int w71)] → W p l e (kR 2 80) s m args below meth c s.heap [] 0 0 Q (F0 m 79 ls [.int z124]) := by
            intro z124 hy; obtain rfl := sm1 hy
            intro ls hl
            refine lv_istore_n (lv' := [(2, .int z124), (0, .ref q_t), (1, .int v1), (3, .int w71)]) hx hb dX8_fits_79 rfl hl (by decide) rfl (fun ls hl => ?_)
            obtain ⟨y125, ey125⟩ : ∃ y : Int32, y = w71 + (1 : Int32) := ⟨_, rfl⟩
            have hf := nmeU ey125 hf
            refine lv_iinc (v := y125) (lv' := [(3, .int y125), (2, .int z124), (0, .ref q_t), (1, .int v1)]) hx hb dX8_fits_80 hl (k := 3) rfl (by rw [ey125]; rfl) (by decide) rfl (fun ls hl => ?_)
            refine lv_goto (tgt := 4) hx hb dX8_fits_83 (by decide) ?_
            exact ih _ _ hf ls (lv_sub hl [2, 3, 1, 0] rfl)
          have hf := h135
          refine lv_if_eq (tgt := 78) hx hb dX8_fits_56 (by decide) (fun c127 => ?_) (fun c127 => ?_)
          · have hf := ifp c127 hf
            refine lv_iconst (v := (0 : Int32)) hx hb dX8_fits_78 (by decide) ?_
            exact E126 _ hf ls (lv_sub hl [0, 1, 3] rfl)
          · have hf := ifn c127 hf
            refine lv_iload hx hb dX8_fits_59 (lv_at hl 4 rfl) ?_
            refine lv_aload_n hx hb dX8_fits_61 rfl (lv_at hl 0 rfl) ?_
            refine va_get (D := D) (ci := 8) (v := .ref q_t_sight) (C := RX8) (T := TX8) (N := 23) hx hb hts inX8 hown hK hP 0 rfl rfl 7 (by decide) (hts _ lfX8_25) (fun _ h9 => h9) rfl dX8_fits_62 ?_
            refine lv_iconst (v := (3 : Int32)) hx hb dX8_fits_65 (by decide) ?_
            refine lv_iload_n hx hb dX8_fits_66 rfl (lv_at hl 3 rfl) ?_
            refine lv_imul hx hb dX8_fits_67 ?_
            refine lv_iconst (v := (2 : Int32)) hx hb dX8_fits_68 (by decide) ?_
            refine lv_iadd hx hb dX8_fits_69 ?_
            obtain ⟨x128, ex128, ix128, hf⟩ := ldIE hf
            refine k_iald hx hb hK hP 1 0 rfl rfl ix128 ex128 dX8_fits_70 ?_
            obtain ⟨j130, h134, hf⟩ := bd1E hf
            have E132 : ∀ (z131 : Int32), some z131 = some j130 → ∀ ls : Array Slot, lv_has ls 6 [(0, .ref q_t), (1, .int v1), (3, .int w71)] → W p l e (kR 2 80) s m args below meth c s.heap [] 0 0 Q (F0 m 79 ls [.int z131]) := by
              intro z131 hy; obtain rfl := sm1 hy
              intro ls hl
              exact E126 _ hf ls (lv_sub hl [0, 1, 2] rfl)
            have hf := h134
            refine lv_icmp_ne (tgt := 78) hx hb dX8_fits_71 (by decide) (fun c133 => ?_) (fun c133 => ?_)
            · have hf := ifn c133 hf
              refine lv_iconst (v := (0 : Int32)) hx hb dX8_fits_78 (by decide) ?_
              exact E132 _ hf ls (lv_sub hl [0, 1, 3] rfl)
            · have hf := ifp c133 hf
              refine lv_iconst (v := (1 : Int32)) hx hb dX8_fits_74 (by decide) ?_
              refine lv_goto (tgt := 79) hx hb dX8_fits_75 (by decide) ?_
              exact E132 _ hf ls (lv_sub hl [0, 1, 3] rfl)
        have L104 : ∀ (k : Nat) (w100 : Int32) (w101 : Int32), fX8_fits_25 t_sight w71 v1 k w100 w101 = some u102 → ∀ ls : Array Slot, lv_has ls 6 [(0, .ref q_t), (1, .int v1), (2, .int w70), (3, .int w71), (4, .int w100), (5, .int w101)] → W p l e (kR 2 80) s m args below meth c s.heap [] 0 0 Q (F0 m 25 ls []) := by
          intro k; induction k with
          | zero => intro w100 w101 hf; exact nosome hf
          | succ k ih =>
            intro w100 w101 hf; rw [fX8_fits_25] at hf
            intro ls hl
            refine lv_iload hx hb dX8_fits_25 (lv_at hl 5 rfl) ?_
            refine lv_aload_n hx hb dX8_fits_27 rfl (lv_at hl 0 rfl) ?_
            refine va_get (D := D) (ci := 8) (v := .ref q_t_sight) (C := RX8) (T := TX8) (N := 23) hx hb hts inX8 hown hK hP 0 rfl rfl 7 (by decide) (hts _ lfX8_25) (fun _ h9 => h9) rfl dX8_fits_28 ?_
            refine lv_iconst (v := (3 : Int32)) hx hb dX8_fits_31 (by decide) ?_
            refine lv_iload_n hx hb dX8_fits_32 rfl (lv_at hl 3 rfl) ?_
            refine lv_imul hx hb dX8_fits_33 ?_
            refine lv_iconst (v := (1 : Int32)) hx hb dX8_fits_34 (by decide) ?_
            refine lv_iadd hx hb dX8_fits_35 ?_
            obtain ⟨x109, ex109, ix109, hf⟩ := ldIE hf
            refine k_iald hx hb hK hP 1 0 rfl rfl ix109 ex109 dX8_fits_36 ?_
            refine lv_icmp_ge (tgt := 55) hx hb dX8_fits_37 (by decide) (fun c110 => ?_) (fun c110 => ?_)
            · have hf := ifp c110 hf
              exact E103 _ hf ls (lv_sub hl [0, 1, 2, 3, 4] rfl)
            · have hf := ifn c110 hf
              refine lv_iload hx hb dX8_fits_40 (lv_at hl 4 rfl) ?_
              refine lv_iload_n hx hb dX8_fits_42 rfl (lv_at hl 1 rfl) ?_
              refine lv_iadd hx hb dX8_fits_43 ?_
              obtain ⟨r111, h112, hf⟩ := bd1E hf
              refine kO_stat hx hb hml hown hts hK hn hP (kX8_clip l D G (w100 + v1) h112) csX8_87 ⟨Nat.le_of_ble_eq_true rfl, Nat.le_of_ble_eq_true rfl⟩ [] rfl rfl hl.1 rfl (Nat.le_of_ble_eq_true rfl) ⟨Nat.zero_le _, Nat.zero_le _⟩ dX8_fits_44 ?_
              refine lv_istore (lv' := [(4, .int r111), (0, .ref q_t), (1, .int v1), (2, .int w70), (3, .int w71), (5, .int w101)]) hx hb dX8_fits_47 hl (by decide) rfl (fun ls hl => ?_)
              obtain ⟨y113, ey113⟩ : ∃ y : Int32, y = w101 + (1 : Int32) := ⟨_, rfl⟩
              have hf := nmeU ey113 hf
              refine lv_iinc (v := y113) (lv' := [(5, .int y113), (4, .int r111), (0, .ref q_t), (1, .int v1), (2, .int w70), (3, .int w71)]) hx hb dX8_fits_49 hl (k := 5) rfl (by rw [ey113]; rfl) (by decide) rfl (fun ls hl => ?_)
              refine lv_goto (tgt := 25) hx hb dX8_fits_52 (by decide) ?_
              exact ih _ _ hf ls (lv_sub hl [2, 3, 4, 5, 1, 0] rfl)
        exact L104 fu x80 (0 : Int32) h106 ls (lv_sub hl [2, 3, 4, 5, 1, 0] rfl)
  exact L74 fu (1 : Int32) (0 : Int32) h76 ls (lv_sub hl [2, 3, 1, 0] rfl)
set_option maxHeartbeats 4000000 in
set_option maxRecDepth 100000 in
theorem kX8_does (l : Launch) (D : va_G) (G : Nat → ClassId) (fu : Nat) (q_t q_t_book q_t_now q_t_does q_t_bad q_t_likes q_t_sight q_t_pad q_t_then q_t_ahead q_t_most q_t_worth q_t_damp q_t_next q_t_image q_t_isKept : Nat) (t_there : Int32) (t_sights : Int32) (t_signs : Int32) (t_worseAt : Int32) (t_worseWho : Int32) (t_hours : Int32) (t_reason : Int32) (t_acts : Int32) (t_sight : Nat → Int32) (v1 : Int32) {r : Int32} (hf : fX8_does fu t_sights t_sight v1 = some r) : rO l D G yX8_does cX8_does 4 (some .int) 3 105 [.ref q_t, .int v1] [(q_t, .inr (8, [.int t_there, .ref q_t_book, .ref q_t_now, .ref q_t_does, .ref q_t_bad, .ref q_t_likes, .int t_sights, .ref q_t_sight, .int t_signs, .ref q_t_pad, .ref q_t_then, .int t_worseAt, .int t_worseWho, .int t_hours, .ref q_t_ahead, .int t_reason, .int t_acts, .ref q_t_most, .ref q_t_worth, .ref q_t_damp, .ref q_t_next, .ref q_t_image, .ref q_t_isKept])), (q_t_sight, .inl (G 0, 24, .inl t_sight))] (some (.int r)) := by
  refine rO_of (by decide) (Nat.le_of_ble_eq_true rfl) ?_
  intro p e s m args below meth c Q hx hb hml hown hts hK hn hP RET ls hl
  have RT : ∀ (a0_ : Int32), some a0_ = some r → ∀ (pc : Nat) (ls : Array Slot) (ins : Instr), decode cX8_does pc = .ok (ins, 1) → rk (some .int) (some (.int a0_)) ins → W p l e (kR 3 105) s m args below meth c s.heap [] 0 0 Q (F0 m pc ls [.int a0_]) := by
    intro a0_ hy; obtain rfl := sm1 hy
    exact RET
  have hown : s.vm.findClass RX8 = some m.cls := hown
  have hl : lv_has ls 4 [(0, .ref q_t), (1, .int v1)] := hl
  clear RET
  rw [fX8_does] at hf
  refine lv_iconst (v := (0 : Int32)) hx hb dX8_does_0 (by decide) ?_
  refine lv_istore_n (lv' := [(2, .int (0 : Int32)), (0, .ref q_t), (1, .int v1)]) hx hb dX8_does_1 rfl hl (by decide) rfl (fun ls hl => ?_)
  refine lv_bipush (v := (-5 : Int32)) hx hb dX8_does_2 (by decide) ?_
  refine lv_istore_n (lv' := [(3, .int (-5 : Int32)), (2, .int (0 : Int32)), (0, .ref q_t), (1, .int v1)]) hx hb dX8_does_4 rfl hl (by decide) rfl (fun ls hl => ?_)
  obtain ⟨z26, h27, hr28, hc29⟩ := br1E hf
  have E24 : ∀ (z38 : Int32), some (Sum.inr z38) = some z26 → ∀ ls : Array Slot, lv_has ls 4 [(1, .int v1), (2, .int z38)] → W p l e (kR 3 105) s m args below meth c s.heap [] 0 0 Q (F0 m 38 ls []) := by
    intro z38 hy; have hf := hc29 z38 hy
    intro ls hl
    refine lv_iload_n hx hb dX8_does_38 rfl (lv_at hl 0 rfl) ?_
    refine lv_iconst (v := (-1 : Int32)) hx hb dX8_does_39 (by decide) ?_
    refine lv_icmp_ne (tgt := 47) hx hb dX8_does_40 (by decide) (fun c39 => ?_) (fun c39 => ?_)
    · have hf := ifn c39 hf
      refine lv_bipush (v := (-6 : Int32)) hx hb dX8_does_47 (by decide) ?_
      exact RT _ hf _ _ _ dX8_does_49 (rkI _)
    · have hf := ifp c39 hf
      refine lv_iload_n hx hb dX8_does_43 rfl (lv_at hl 1 rfl) ?_
      refine lv_goto (tgt := 49) hx hb dX8_does_44 (by decide) ?_
      exact RT _ hf _ _ _ dX8_does_49 (rkI _)
  have L25 : ∀ (k : Nat) (w21 : Int32) (w22 : Int32), fX8_does_5 fu t_sights t_sight v1 k w21 w22 = some z26 → ∀ ls : Array Slot, lv_has ls 4 [(0, .ref q_t), (1, .int v1), (2, .int w21), (3, .int w22)] → W p l e (kR 3 105) s m args below meth c s.heap [] 0 0 Q (F0 m 5 ls []) := by
    intro k; induction k with
    | zero => intro w21 w22 hf; exact nosome hf
    | succ k ih =>
      intro w21 w22 hf; rw [fX8_does_5] at hf
      intro ls hl
      refine lv_iload_n hx hb dX8_does_5 rfl (lv_at hl 3 rfl) ?_
      refine lv_bipush (v := (6 : Int32)) hx hb dX8_does_6 (by decide) ?_
      refine lv_icmp_ge (tgt := 38) hx hb dX8_does_8 (by decide) (fun c30 => ?_) (fun c30 => ?_)
      · have hf := ifp c30 hf
        exact E24 _ hf ls (lv_sub hl [1, 2] rfl)
      · have hf := ifn c30 hf
        refine lv_aload_n hx hb dX8_does_11 rfl (lv_at hl 0 rfl) ?_
        refine lv_iload_n hx hb dX8_does_12 rfl (lv_at hl 3 rfl) ?_
        obtain ⟨r31, h32, hf⟩ := bd1E hf
        refine kO_virt hx hb hml hown hts hK hn hP (kX8_fits l D G fu q_t q_t_book q_t_now q_t_does q_t_bad q_t_likes q_t_sight q_t_pad q_t_then q_t_ahead q_t_most q_t_worth q_t_damp q_t_next q_t_image q_t_isKept t_there t_sights t_signs t_worseAt t_worseWho t_hours t_reason t_acts t_sight w22 h32) cvX8_153 ⟨Nat.le_of_ble_eq_true rfl, Nat.le_of_ble_eq_true rfl⟩ [0, 1] rfl 0 rfl rfl rfl hl.1 rfl (Nat.le_of_ble_eq_true rfl) ⟨Nat.zero_le _, Nat.zero_le _⟩ dX8_does_13 ?_
        refine lv_if_eq (tgt := 32) hx hb dX8_does_16 (by decide) (fun c33 => ?_) (fun c33 => ?_)
        · have hf := ifp c33 hf
          obtain ⟨y34, ey34⟩ : ∃ y : Int32, y = w22 + (1 : Int32) := ⟨_, rfl⟩
          have hf := nmeU ey34 hf
          refine lv_iinc (v := y34) (lv' := [(3, .int y34), (0, .ref q_t), (1, .int v1), (2, .int w21)]) hx hb dX8_does_32 hl (k := 3) rfl (by rw [ey34]; rfl) (by decide) rfl (fun ls hl => ?_)
          refine lv_goto (tgt := 5) hx hb dX8_does_35 (by decide) ?_
          exact ih _ _ hf ls (lv_sub hl [1, 2, 3, 0] rfl)
        · have hf := ifn c33 hf
          refine lv_iload_n hx hb dX8_does_19 rfl (lv_at hl 2 rfl) ?_
          refine lv_iload_n hx hb dX8_does_20 rfl (lv_at hl 1 rfl) ?_
          refine lv_icmp_ne (tgt := 29) hx hb dX8_does_21 (by decide) (fun c35 => ?_) (fun c35 => ?_)
          · have hf := ifn c35 hf
            obtain ⟨y36, ey36⟩ : ∃ y : Int32, y = w21 + (1 : Int32) := ⟨_, rfl⟩
            have hf := nmeU ey36 hf
            refine lv_iinc (v := y36) (lv' := [(2, .int y36), (0, .ref q_t), (1, .int v1), (3, .int w22)]) hx hb dX8_does_29 hl (k := 2) rfl (by rw [ey36]; rfl) (by decide) rfl (fun ls hl => ?_)
            obtain ⟨y37, ey37⟩ : ∃ y : Int32, y = w22 + (1 : Int32) := ⟨_, rfl⟩
            have hf := nmeU ey37 hf
            refine lv_iinc (v := y37) (lv' := [(3, .int y37), (2, .int y36), (0, .ref q_t), (1, .int v1)]) hx hb dX8_does_32 hl (k := 3) rfl (by rw [ey37]; rfl) (by decide) rfl (fun ls hl => ?_)
            refine lv_goto (tgt := 5) hx hb dX8_does_35 (by decide) ?_
            exact ih _ _ hf ls (lv_sub hl [2, 3, 1, 0] rfl)
          · have hf := ifp c35 hf
            refine lv_iload_n hx hb dX8_does_24 rfl (lv_at hl 3 rfl) ?_
            refine lv_bipush (v := (10 : Int32)) hx hb dX8_does_25 (by decide) ?_
            refine lv_iadd hx hb dX8_does_27 ?_
            have hf := hr28 _ hf
            exact RT _ hf _ _ _ dX8_does_28 (rkI _)
  exact L25 fu (0 : Int32) (-5 : Int32) h27 ls (lv_sub hl [2, 3, 1, 0] rfl)
