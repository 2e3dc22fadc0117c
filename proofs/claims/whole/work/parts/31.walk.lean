set_option maxHeartbeats 4000000 in
set_option maxRecDepth 100000 in
theorem kX8_done (l : Launch) (D : va_G) (G : Nat → ClassId) (fu : Nat) (q_t q_t_book q_t_now q_t_does q_t_bad q_t_likes q_t_sight q_t_pad q_t_then q_t_ahead q_t_most q_t_worth q_t_damp q_t_next q_t_image q_t_isKept : Nat) (t_there : Int32) (t_sights : Int32) (t_signs : Int32) (t_worseAt : Int32) (t_worseWho : Int32) (t_hours : Int32) (t_reason : Int32) (t_acts : Int32) (t_book : Nat → Int32) (t_now : Nat → Int32) (t_does : Nat → Int32) (t_bad : Nat → Int32) (t_pad : Nat → Int32) (t_then : Nat → Int32) (t_ahead : Nat → Int32) {r : Int32} {o_t_signs : Int32} {o_t_worseAt : Int32} {o_t_worseWho : Int32} {o_t_hours : Int32} {o_t_reason : Int32} {o_t_acts : Int32} {o_t_book : Nat → Int32} {o_t_now : Nat → Int32} {o_t_then : Nat → Int32} {o_t_ahead : Nat → Int32} (hf : fX8_done fu t_there t_signs t_worseAt t_worseWho t_hours t_reason t_acts t_book t_now t_does t_bad t_pad t_then t_ahead = some (r, o_t_signs, o_t_worseAt, o_t_worseWho, o_t_hours, o_t_reason, o_t_acts, o_t_book, o_t_now, o_t_then, o_t_ahead)) : rW l D G yX8_done cX8_done 2 (some .int) 6 169 [.ref q_t] [(q_t, .inr (8, [.int t_there, .ref q_t_book, .ref q_t_now, .ref q_t_does, .ref q_t_bad, .ref q_t_likes, .int t_sights, .ref q_t_sight, .int t_signs, .ref q_t_pad, .ref q_t_then, .int t_worseAt, .int t_worseWho, .int t_hours, .ref q_t_ahead, .int t_reason, .int t_acts, .ref q_t_most, .ref q_t_worth, .ref q_t_damp, .ref q_t_next, .ref q_t_image, .ref q_t_isKept])), (q_t_book, .inl (G 0, 26, .inl t_book)), (q_t_now, .inl (G 0, 26, .inl t_now)), (q_t_does, .inl (G 0, 12, .inl t_does)), (q_t_bad, .inl (G 0, 36, .inl t_bad)), (q_t_pad, .inl (G 0, 60, .inl t_pad)), (q_t_then, .inl (G 0, 18, .inl t_then)), (q_t_ahead, .inl (G 0, 6, .inl t_ahead))] [(q_t, .inr (8, [.int t_there, .ref q_t_book, .ref q_t_now, .ref q_t_does, .ref q_t_bad, .ref q_t_likes, .int t_sights, .ref q_t_sight, .int o_t_signs, .ref q_t_pad, .ref q_t_then, .int o_t_worseAt, .int o_t_worseWho, .int o_t_hours, .ref q_t_ahead, .int o_t_reason, .int o_t_acts, .ref q_t_most, .ref q_t_worth, .ref q_t_damp, .ref q_t_next, .ref q_t_image, .ref q_t_isKept])), (q_t_book, .inl (G 0, 26, .inl o_t_book)), (q_t_now, .inl (G 0, 26, .inl o_t_now)), (q_t_does, .inl (G 0, 12, .inl t_does)), (q_t_bad, .inl (G 0, 36, .inl t_bad)), (q_t_pad, .inl (G 0, 60, .inl t_pad)), (q_t_then, .inl (G 0, 18, .inl o_t_then)), (q_t_ahead, .inl (G 0, 6, .inl o_t_ahead))] (some (.int r)) := by
  refine rW_of (by decide) (Nat.le_of_ble_eq_true rfl) ?_
  intro p e s m args below meth c Q A hx hb hml hown hts hK hn hA RET H locs hP hD hS ls hl
  have RT : ∀ (a0_ : Int32) (a1_ : Int32) (a2_ : Int32) (a3_ : Int32) (a4_ : Int32) (a5_ : Int32) (a6_ : Int32) (a7_ : Nat → Int32) (a8_ : Nat → Int32) (a9_ : Nat → Int32) (a10_ : Nat → Int32), some (a0_, a1_, a2_, a3_, a4_, a5_, a6_, a7_, a8_, a9_, a10_) = some (r, o_t_signs, o_t_worseAt, o_t_worseWho, o_t_hours, o_t_reason, o_t_acts, o_t_book, o_t_now, o_t_then, o_t_ahead) → ∀ (pc : Nat) (ls : Array Slot) (ins : Instr) (H : Heap) (locs : List Loc), decode cX8_done pc = .ok (ins, 1) → rk (some .int) (some (.int a0_)) ins → va_P D vwCl [(q_t, .inr (8, [.int t_there, .ref q_t_book, .ref q_t_now, .ref q_t_does, .ref q_t_bad, .ref q_t_likes, .int t_sights, .ref q_t_sight, .int a1_, .ref q_t_pad, .ref q_t_then, .int a2_, .int a3_, .int a4_, .ref q_t_ahead, .int a5_, .int a6_, .ref q_t_most, .ref q_t_worth, .ref q_t_damp, .ref q_t_next, .ref q_t_image, .ref q_t_isKept])), (q_t_book, .inl (G 0, 26, .inl a7_)), (q_t_now, .inl (G 0, 26, .inl a8_)), (q_t_does, .inl (G 0, 12, .inl t_does)), (q_t_bad, .inl (G 0, 36, .inl t_bad)), (q_t_pad, .inl (G 0, 60, .inl t_pad)), (q_t_then, .inl (G 0, 18, .inl a9_)), (q_t_ahead, .inl (G 0, 6, .inl a10_))] H → va_D A [(q_t, .inr (8, [.int t_there, .ref q_t_book, .ref q_t_now, .ref q_t_does, .ref q_t_bad, .ref q_t_likes, .int t_sights, .ref q_t_sight, .int a1_, .ref q_t_pad, .ref q_t_then, .int a2_, .int a3_, .int a4_, .ref q_t_ahead, .int a5_, .int a6_, .ref q_t_most, .ref q_t_worth, .ref q_t_damp, .ref q_t_next, .ref q_t_image, .ref q_t_isKept])), (q_t_book, .inl (G 0, 26, .inl a7_)), (q_t_now, .inl (G 0, 26, .inl a8_)), (q_t_does, .inl (G 0, 12, .inl t_does)), (q_t_bad, .inl (G 0, 36, .inl t_bad)), (q_t_pad, .inl (G 0, 60, .inl t_pad)), (q_t_then, .inl (G 0, 18, .inl a9_)), (q_t_ahead, .inl (G 0, 6, .inl a10_))] → va_S A s.heap H locs → W p l e (kR 6 169) s m args below meth c H locs 0 0 Q (F0 m pc ls [.int a0_]) := by
    intro a0_ a1_ a2_ a3_ a4_ a5_ a6_ a7_ a8_ a9_ a10_ hy; obtain ⟨rfl, rfl, rfl, rfl, rfl, rfl, rfl, rfl, rfl, rfl, rfl⟩ := sm11 hy
    exact RET
  have hown : s.vm.findClass RX8 = some m.cls := hown
  have hl : lv_has ls 2 [(0, .ref q_t)] := hl
  clear RET
  rw [fX8_done] at hf
  refine lv_aload_n hx hb dX8_done_0 rfl (lv_at hl 0 rfl) ?_
  obtain ⟨r1, o2, o3, o4, o5, o6, o7, o8, o9, h10, hf⟩ := bd9E hf
  refine kW_virt hx hb hml hown hts hK hn hA hP hD hS (kX8_barOfCures l D G fu q_t q_t_book q_t_now q_t_does q_t_bad q_t_likes q_t_sight q_t_pad q_t_then q_t_ahead q_t_most q_t_worth q_t_damp q_t_next q_t_image q_t_isKept t_there t_sights t_signs t_worseAt t_worseWho t_hours t_reason t_acts t_book t_now t_does t_bad t_pad t_then t_ahead h10) cvX8_130 ⟨Nat.le_of_ble_eq_true rfl, Nat.le_of_ble_eq_true rfl⟩ [0, 1, 2, 3, 4, 5, 6, 7] rfl rfl [true, true, true, true, true, true, true, true] rfl (w3 := [(q_t, .inr (8, [.int t_there, .ref q_t_book, .ref q_t_now, .ref q_t_does, .ref q_t_bad, .ref q_t_likes, .int t_sights, .ref q_t_sight, .int t_signs, .ref q_t_pad, .ref q_t_then, .int o2, .int o3, .int o4, .ref q_t_ahead, .int o5, .int o6, .ref q_t_most, .ref q_t_worth, .ref q_t_damp, .ref q_t_next, .ref q_t_image, .ref q_t_isKept])), (q_t_book, .inl (G 0, 26, .inl t_book)), (q_t_now, .inl (G 0, 26, .inl o7)), (q_t_does, .inl (G 0, 12, .inl t_does)), (q_t_bad, .inl (G 0, 36, .inl t_bad)), (q_t_pad, .inl (G 0, 60, .inl t_pad)), (q_t_then, .inl (G 0, 18, .inl o8)), (q_t_ahead, .inl (G 0, 6, .inl o9))]) [0, 1, 2, 3, 4, 5, 6, 7] rfl rfl 0 rfl rfl rfl hl.1 rfl (Nat.le_of_ble_eq_true rfl) ⟨Nat.zero_le _, Nat.zero_le _⟩ dX8_done_1 (fun H locs hP hD hS => ?_)
  have hP : va_P D vwCl [(q_t, .inr (8, [.int t_there, .ref q_t_book, .ref q_t_now, .ref q_t_does, .ref q_t_bad, .ref q_t_likes, .int t_sights, .ref q_t_sight, .int t_signs, .ref q_t_pad, .ref q_t_then, .int o2, .int o3, .int o4, .ref q_t_ahead, .int o5, .int o6, .ref q_t_most, .ref q_t_worth, .ref q_t_damp, .ref q_t_next, .ref q_t_image, .ref q_t_isKept])), (q_t_book, .inl (G 0, 26, .inl t_book)), (q_t_now, .inl (G 0, 26, .inl o7)), (q_t_does, .inl (G 0, 12, .inl t_does)), (q_t_bad, .inl (G 0, 36, .inl t_bad)), (q_t_pad, .inl (G 0, 60, .inl t_pad)), (q_t_then, .inl (G 0, 18, .inl o8)), (q_t_ahead, .inl (G 0, 6, .inl o9))] H := hP
  have hD : va_D A [(q_t, .inr (8, [.int t_there, .ref q_t_book, .ref q_t_now, .ref q_t_does, .ref q_t_bad, .ref q_t_likes, .int t_sights, .ref q_t_sight, .int t_signs, .ref q_t_pad, .ref q_t_then, .int o2, .int o3, .int o4, .ref q_t_ahead, .int o5, .int o6, .ref q_t_most, .ref q_t_worth, .ref q_t_damp, .ref q_t_next, .ref q_t_image, .ref q_t_isKept])), (q_t_book, .inl (G 0, 26, .inl t_book)), (q_t_now, .inl (G 0, 26, .inl o7)), (q_t_does, .inl (G 0, 12, .inl t_does)), (q_t_bad, .inl (G 0, 36, .inl t_bad)), (q_t_pad, .inl (G 0, 60, .inl t_pad)), (q_t_then, .inl (G 0, 18, .inl o8)), (q_t_ahead, .inl (G 0, 6, .inl o9))] := hD
  refine lv_if_ge (tgt := 10) hx hb dX8_done_4 (by decide) (fun c11 => ?_) (fun c11 => ?_)
  · have hf := ifp c11 hf
    refine lv_iconst (v := (0 : Int32)) hx hb dX8_done_10 (by decide) ?_
    refine lv_istore_n (lv' := [(1, .int (0 : Int32)), (0, .ref q_t)]) hx hb dX8_done_11 rfl hl (by decide) rfl (fun ls hl => ?_)
    obtain ⟨u34, h38, hf⟩ := bd1E hf
    have E35 : ∀ (z45 : Nat → Int32), some z45 = some u34 → ∀ (H : Heap) (locs : List Loc), va_P D vwCl [(q_t, .inr (8, [.int t_there, .ref q_t_book, .ref q_t_now, .ref q_t_does, .ref q_t_bad, .ref q_t_likes, .int t_sights, .ref q_t_sight, .int t_signs, .ref q_t_pad, .ref q_t_then, .int o2, .int o3, .int o4, .ref q_t_ahead, .int o5, .int o6, .ref q_t_most, .ref q_t_worth, .ref q_t_damp, .ref q_t_next, .ref q_t_image, .ref q_t_isKept])), (q_t_book, .inl (G 0, 26, .inl z45)), (q_t_now, .inl (G 0, 26, .inl o7)), (q_t_does, .inl (G 0, 12, .inl t_does)), (q_t_bad, .inl (G 0, 36, .inl t_bad)), (q_t_pad, .inl (G 0, 60, .inl t_pad)), (q_t_then, .inl (G 0, 18, .inl o8)), (q_t_ahead, .inl (G 0, 6, .inl o9))] H → va_D A [(q_t, .inr (8, [.int t_there, .ref q_t_book, .ref q_t_now, .ref q_t_does, .ref q_t_bad, .ref q_t_likes, .int t_sights, .ref q_t_sight, .int t_signs, .ref q_t_pad, .ref q_t_then, .int o2, .int o3, .int o4, .ref q_t_ahead, .int o5, .int o6, .ref q_t_most, .ref q_t_worth, .ref q_t_damp, .ref q_t_next, .ref q_t_image, .ref q_t_isKept])), (q_t_book, .inl (G 0, 26, .inl z45)), (q_t_now, .inl (G 0, 26, .inl o7)), (q_t_does, .inl (G 0, 12, .inl t_does)), (q_t_bad, .inl (G 0, 36, .inl t_bad)), (q_t_pad, .inl (G 0, 60, .inl t_pad)), (q_t_then, .inl (G 0, 18, .inl o8)), (q_t_ahead, .inl (G 0, 6, .inl o9))] → va_S A s.heap H locs → ∀ ls : Array Slot, lv_has ls 2 [(0, .ref q_t)] → W p l e (kR 6 169) s m args below meth c H locs 0 0 Q (F0 m 36 ls []) := by
      intro z45 hy; obtain rfl := sm1 hy
      intro H locs hP hD hS ls hl
      refine lv_aload_n hx hb dX8_done_36 rfl (lv_at hl 0 rfl) ?_
      refine lv_iconst (v := (0 : Int32)) hx hb dX8_done_37 (by decide) ?_
      refine va_put (D := D) (ci := 8) (v := .int (0 : Int32)) (ty := .int) (C := RX8) (T := TX8) (N := 23) hx hb hts inX8 tyX8 tyX8_ok nmX8 hown hK hP hD hS 0 rfl rfl 8 (by decide) (hts _ lfX8_80) (fun _ h9 => h9) rfl (tyX8_ok 8 (by decide)) rfl rfl (Nat.le_of_ble_eq_true rfl) dX8_done_38 (fun H locs hP hD hS => ?_)
      have hP : va_P D vwCl [(q_t, .inr (8, [.int t_there, .ref q_t_book, .ref q_t_now, .ref q_t_does, .ref q_t_bad, .ref q_t_likes, .int t_sights, .ref q_t_sight, .int (0 : Int32), .ref q_t_pad, .ref q_t_then, .int o2, .int o3, .int o4, .ref q_t_ahead, .int o5, .int o6, .ref q_t_most, .ref q_t_worth, .ref q_t_damp, .ref q_t_next, .ref q_t_image, .ref q_t_isKept])), (q_t_book, .inl (G 0, 26, .inl z45)), (q_t_now, .inl (G 0, 26, .inl o7)), (q_t_does, .inl (G 0, 12, .inl t_does)), (q_t_bad, .inl (G 0, 36, .inl t_bad)), (q_t_pad, .inl (G 0, 60, .inl t_pad)), (q_t_then, .inl (G 0, 18, .inl o8)), (q_t_ahead, .inl (G 0, 6, .inl o9))] H := hP
      have hD : va_D A [(q_t, .inr (8, [.int t_there, .ref q_t_book, .ref q_t_now, .ref q_t_does, .ref q_t_bad, .ref q_t_likes, .int t_sights, .ref q_t_sight, .int (0 : Int32), .ref q_t_pad, .ref q_t_then, .int o2, .int o3, .int o4, .ref q_t_ahead, .int o5, .int o6, .ref q_t_most, .ref q_t_worth, .ref q_t_damp, .ref q_t_next, .ref q_t_image, .ref q_t_isKept])), (q_t_book, .inl (G 0, 26, .inl z45)), (q_t_now, .inl (G 0, 26, .inl o7)), (q_t_does, .inl (G 0, 12, .inl t_does)), (q_t_bad, .inl (G 0, 36, .inl t_bad)), (q_t_pad, .inl (G 0, 60, .inl t_pad)), (q_t_then, .inl (G 0, 18, .inl o8)), (q_t_ahead, .inl (G 0, 6, .inl o9))] := hD
      refine lv_aload_n hx hb dX8_done_41 rfl (lv_at hl 0 rfl) ?_
      refine va_get (D := D) (ci := 8) (v := .int o6) (C := RX8) (T := TX8) (N := 23) hx hb hts inX8 hown hK hP 0 rfl rfl 16 (by decide) (hts _ lfX8_111) (fun _ h9 => h9) rfl dX8_done_42 ?_
      exact RT _ _ _ _ _ _ _ _ _ _ _ hf _ _ _ H locs dX8_done_45 (rkI _) hP hD hS
    have L36 : ∀ (k : Nat) (w32 : Int32) (w33 : Nat → Int32), fX8_done_12 o7 k w32 w33 = some u34 → ∀ (H : Heap) (locs : List Loc), va_P D vwCl [(q_t, .inr (8, [.int t_there, .ref q_t_book, .ref q_t_now, .ref q_t_does, .ref q_t_bad, .ref q_t_likes, .int t_sights, .ref q_t_sight, .int t_signs, .ref q_t_pad, .ref q_t_then, .int o2, .int o3, .int o4, .ref q_t_ahead, .int o5, .int o6, .ref q_t_most, .ref q_t_worth, .ref q_t_damp, .ref q_t_next, .ref q_t_image, .ref q_t_isKept])), (q_t_book, .inl (G 0, 26, .inl w33)), (q_t_now, .inl (G 0, 26, .inl o7)), (q_t_does, .inl (G 0, 12, .inl t_does)), (q_t_bad, .inl (G 0, 36, .inl t_bad)), (q_t_pad, .inl (G 0, 60, .inl t_pad)), (q_t_then, .inl (G 0, 18, .inl o8)), (q_t_ahead, .inl (G 0, 6, .inl o9))] H → va_D A [(q_t, .inr (8, [.int t_there, .ref q_t_book, .ref q_t_now, .ref q_t_does, .ref q_t_bad, .ref q_t_likes, .int t_sights, .ref q_t_sight, .int t_signs, .ref q_t_pad, .ref q_t_then, .int o2, .int o3, .int o4, .ref q_t_ahead, .int o5, .int o6, .ref q_t_most, .ref q_t_worth, .ref q_t_damp, .ref q_t_next, .ref q_t_image, .ref q_t_isKept])), (q_t_book, .inl (G 0, 26, .inl w33)), (q_t_now, .inl (G 0, 26, .inl o7)), (q_t_does, .inl (G 0, 12, .inl t_does)), (q_t_bad, .inl (G 0, 36, .inl t_bad)), (q_t_pad, .inl (G 0, 60, .inl t_pad)), (q_t_then, .inl (G 0, 18, .inl o8)), (q_t_ahead, .inl (G 0, 6, .inl o9))] → va_S A s.heap H locs → ∀ ls : Array Slot, lv_has ls 2 [(0, .ref q_t), (1, .int w32)] → W p l e (kR 6 169) s m args below meth c H locs 0 0 Q (F0 m 12 ls []) := by
      intro k; induction k with
      | zero => intro w32 w33 hf; exact nosome hf
      | succ k ih =>
        intro w32 w33 hf; rw [fX8_done_12] at hf
        intro H locs hP hD hS ls hl
        refine lv_iload_n hx hb dX8_done_12 rfl (lv_at hl 1 rfl) ?_
        refine lv_bipush (v := (26 : Int32)) hx hb dX8_done_13 (by decide) ?_
        refine lv_icmp_ge (tgt := 36) hx hb dX8_done_15 (by decide) (fun c41 => ?_) (fun c41 => ?_)
        · have hf := ifp c41 hf
          exact E35 _ hf H locs hP hD hS ls (lv_sub hl [0] rfl)
        · have hf := ifn c41 hf
          refine lv_aload_n hx hb dX8_done_18 rfl (lv_at hl 0 rfl) ?_
          refine va_get (D := D) (ci := 8) (v := .ref q_t_book) (C := RX8) (T := TX8) (N := 23) hx hb hts inX8 hown hK hP 0 rfl rfl 1 (by decide) (hts _ lfX8_7) (fun _ h9 => h9) rfl dX8_done_19 ?_
          refine lv_iload_n hx hb dX8_done_22 rfl (lv_at hl 1 rfl) ?_
          refine lv_aload_n hx hb dX8_done_23 rfl (lv_at hl 0 rfl) ?_
          refine va_get (D := D) (ci := 8) (v := .ref q_t_now) (C := RX8) (T := TX8) (N := 23) hx hb hts inX8 hown hK hP 0 rfl rfl 2 (by decide) (hts _ lfX8_13) (fun _ h9 => h9) rfl dX8_done_24 ?_
          refine lv_iload_n hx hb dX8_done_27 rfl (lv_at hl 1 rfl) ?_
          obtain ⟨x42, ex42, ix42, hf⟩ := ldIE hf
          refine k_iald hx hb hK hP 2 0 rfl rfl ix42 ex42 dX8_done_28 ?_
          obtain ⟨g43, eg43, ig43, hf⟩ := stIE hf
          refine k_iast hx hb hK hP hD hS 1 0 rfl rfl ig43 eg43 dX8_done_29 (fun H locs hP hD hS => ?_)
          have hP : va_P D vwCl [(q_t, .inr (8, [.int t_there, .ref q_t_book, .ref q_t_now, .ref q_t_does, .ref q_t_bad, .ref q_t_likes, .int t_sights, .ref q_t_sight, .int t_signs, .ref q_t_pad, .ref q_t_then, .int o2, .int o3, .int o4, .ref q_t_ahead, .int o5, .int o6, .ref q_t_most, .ref q_t_worth, .ref q_t_damp, .ref q_t_next, .ref q_t_image, .ref q_t_isKept])), (q_t_book, .inl (G 0, 26, .inl g43)), (q_t_now, .inl (G 0, 26, .inl o7)), (q_t_does, .inl (G 0, 12, .inl t_does)), (q_t_bad, .inl (G 0, 36, .inl t_bad)), (q_t_pad, .inl (G 0, 60, .inl t_pad)), (q_t_then, .inl (G 0, 18, .inl o8)), (q_t_ahead, .inl (G 0, 6, .inl o9))] H := hP
          have hD : va_D A [(q_t, .inr (8, [.int t_there, .ref q_t_book, .ref q_t_now, .ref q_t_does, .ref q_t_bad, .ref q_t_likes, .int t_sights, .ref q_t_sight, .int t_signs, .ref q_t_pad, .ref q_t_then, .int o2, .int o3, .int o4, .ref q_t_ahead, .int o5, .int o6, .ref q_t_most, .ref q_t_worth, .ref q_t_damp, .ref q_t_next, .ref q_t_image, .ref q_t_isKept])), (q_t_book, .inl (G 0, 26, .inl g43)), (q_t_now, .inl (G 0, 26, .inl o7)), (q_t_does, .inl (G 0, 12, .inl t_does)), (q_t_bad, .inl (G 0, 36, .inl t_bad)), (q_t_pad, .inl (G 0, 60, .inl t_pad)), (q_t_then, .inl (G 0, 18, .inl o8)), (q_t_ahead, .inl (G 0, 6, .inl o9))] := hD
          obtain ⟨y44, ey44⟩ : ∃ y : Int32, y = w32 + (1 : Int32) := ⟨_, rfl⟩
          have hf := nmeU ey44 hf
          refine lv_iinc (v := y44) (lv' := [(1, .int y44), (0, .ref q_t)]) hx hb dX8_done_30 hl (k := 1) rfl (by rw [ey44]; rfl) (by decide) rfl (fun ls hl => ?_)
          refine lv_goto (tgt := 12) hx hb dX8_done_33 (by decide) ?_
          exact ih _ _ hf H locs hP hD hS ls (lv_sub hl [1, 0] rfl)
    exact L36 fu (0 : Int32) t_book h38 H locs hP hD hS ls (lv_sub hl [1, 0] rfl)
  · have hf := ifn c11 hf
    refine lv_bipush (v := (-5 : Int32)) hx hb dX8_done_7 (by decide) ?_
    exact RT _ _ _ _ _ _ _ _ _ _ _ hf _ _ _ H locs dX8_done_9 (rkI _) hP hD hS
set_option maxHeartbeats 4000000 in
set_option maxRecDepth 100000 in
theorem kX8_part (l : Launch) (D : va_G) (G : Nat → ClassId) (fu : Nat) (v0 : Int64) (v2 : Int64) (v4 : Int32) {r : Int64} (hf : fX8_part fu v0 v2 v4 = some r) : rO l D G yX8_part cX8_part 11 (some .long) 1 60 [.long v0, .long v2, .int v4] [] (some (.long r)) := by
  refine rO_of (by decide) (Nat.le_of_ble_eq_true rfl) ?_
  intro p e s m args below meth c Q hx hb hml hown hts hK hn hP RET ls hl
  have RT : ∀ (a0_ : Int64), some a0_ = some r → ∀ (pc : Nat) (ls : Array Slot) (ins : Instr), decode cX8_part pc = .ok (ins, 1) → rk (some .long) (some (.long a0_)) ins → W p l e (kR 1 60) s m args below meth c s.heap [] 0 0 Q (F0 m pc ls [.long a0_]) := by
    intro a0_ hy; obtain rfl := sm1 hy
    exact RET
  have hown : s.vm.findClass RX8 = some m.cls := hown
  have hl : lv_has ls 11 [(0, .long v0), (2, .long v2), (4, .int v4)] := hl
  clear RET
  rw [fX8_part] at hf
  refine lv_lload_n hx hb dX8_part_0 rfl (lv_at hl 0 rfl) ?_
  refine lv_lconst (v := (0 : Int64)) hx hb dX8_part_1 (by decide) ?_
  refine W.lcmp hx hb dX8_part_2 ?_
  obtain ⟨j2, h32, hf⟩ := bd1E hf
  have E30 : ∀ (z3 : Int64), some z3 = some j2 → ∀ ls : Array Slot, lv_has ls 11 [(0, .long v0), (2, .long v2), (4, .int v4)] → W p l e (kR 1 60) s m args below meth c s.heap [] 0 0 Q (F0 m 12 ls [.long z3]) := by
    intro z3 hy; obtain rfl := sm1 hy
    intro ls hl
    refine lv_lstore (lv' := [(5, .long z3), (0, .long v0), (2, .long v2), (4, .int v4)]) hx hb dX8_part_12 hl (by decide) rfl (fun ls hl => ?_)
    refine lv_lload_n hx hb dX8_part_14 rfl (lv_at hl 2 rfl) ?_
    refine lv_lstore (lv' := [(7, .long v2), (5, .long z3), (0, .long v0), (2, .long v2), (4, .int v4)]) hx hb dX8_part_15 hl (by decide) rfl (fun ls hl => ?_)
    obtain ⟨u14, h18, hf⟩ := bd1E hf
    have E15 : ∀ (z24 : Int64), some z24 = some u14 → ∀ ls : Array Slot, lv_has ls 11 [(0, .long v0), (2, .long v2), (4, .int v4), (5, .long z24)] → W p l e (kR 1 60) s m args below meth c s.heap [] 0 0 Q (F0 m 42 ls []) := by
      intro z24 hy; obtain rfl := sm1 hy
      intro ls hl
      refine lv_iload hx hb dX8_part_42 (lv_at hl 2 rfl) ?_
      refine lv_if_ne (tgt := 54) hx hb dX8_part_44 (by decide) (fun c25 => ?_) (fun c25 => ?_)
      · have hf := ifn c25 hf
        refine lv_lload_n hx hb dX8_part_54 rfl (lv_at hl 1 rfl) ?_
        refine lv_lload hx hb dX8_part_55 (lv_at hl 3 rfl) ?_
        obtain ⟨h26, hf⟩ := dvLE hf
        refine lv_ldiv hx hb dX8_part_57 h26 ?_
        generalize (v2 / z24) = x27 at hf ⊢
        exact RT _ hf _ _ _ dX8_part_58 (rkL _)
      · have hf := ifp c25 hf
        refine lv_lload_n hx hb dX8_part_47 rfl (lv_at hl 0 rfl) ?_
        refine lv_lload hx hb dX8_part_48 (lv_at hl 3 rfl) ?_
        obtain ⟨h28, hf⟩ := dvLE hf
        refine lv_ldiv hx hb dX8_part_50 h28 ?_
        generalize (v0 / z24) = x29 at hf ⊢
        refine lv_goto (tgt := 58) hx hb dX8_part_51 (by decide) ?_
        exact RT _ hf _ _ _ dX8_part_58 (rkL _)
    have L16 : ∀ (k : Nat) (w12 : Int64) (w13 : Int64), fX8_part_17 k w12 w13 = some u14 → ∀ ls : Array Slot, lv_has ls 11 [(0, .long v0), (2, .long v2), (4, .int v4), (5, .long w12), (7, .long w13)] → W p l e (kR 1 60) s m args below meth c s.heap [] 0 0 Q (F0 m 17 ls []) := by
      intro k; induction k with
      | zero => intro w12 w13 hf; exact nosome hf
      | succ k ih =>
        intro w12 w13 hf; rw [fX8_part_17] at hf
        intro ls hl
        refine lv_lload hx hb dX8_part_17 (lv_at hl 4 rfl) ?_
        refine lv_lconst (v := (0 : Int64)) hx hb dX8_part_19 (by decide) ?_
        refine W.lcmp hx hb dX8_part_20 ?_
        refine lv_if_eq (tgt := 42) hx hb dX8_part_21 (by decide) (fun c21 => ?_) (fun c21 => ?_)
        · have hf := ifp c21 hf
          exact E15 _ hf ls (lv_sub hl [0, 1, 2, 3] rfl)
        · have hf := ifn c21 hf
          refine lv_lload hx hb dX8_part_24 (lv_at hl 3 rfl) ?_
          refine lv_lload hx hb dX8_part_26 (lv_at hl 4 rfl) ?_
          obtain ⟨h22, hf⟩ := rmLE hf
          refine lv_lrem hx hb dX8_part_28 h22 ?_
          generalize (w12 - w12 / w13 * w13) = x23 at hf ⊢
          refine lv_lstore (lv' := [(9, .long x23), (0, .long v0), (2, .long v2), (4, .int v4), (5, .long w12), (7, .long w13)]) hx hb dX8_part_29 hl (by decide) rfl (fun ls hl => ?_)
          refine lv_lload hx hb dX8_part_31 (lv_at hl 5 rfl) ?_
          refine lv_lstore (lv' := [(5, .long w13), (9, .long x23), (0, .long v0), (2, .long v2), (4, .int v4), (7, .long w13)]) hx hb dX8_part_33 hl (by decide) rfl (fun ls hl => ?_)
          refine lv_lload hx hb dX8_part_35 (lv_at hl 1 rfl) ?_
          refine lv_lstore (lv' := [(7, .long x23), (5, .long w13), (9, .long x23), (0, .long v0), (2, .long v2), (4, .int v4)]) hx hb dX8_part_37 hl (by decide) rfl (fun ls hl => ?_)
          refine lv_goto (tgt := 17) hx hb dX8_part_39 (by decide) ?_
          exact ih _ _ hf ls (lv_sub hl [3, 4, 5, 1, 0] rfl)
    exact L16 fu z3 v2 h18 ls (lv_sub hl [2, 3, 4, 1, 0] rfl)
  have hf := h32
  refine lv_if_ge (tgt := 11) hx hb dX8_part_3 (by decide) (fun c31 => ?_) (fun c31 => ?_)
  · have hf := ifp c31 hf
    refine lv_lload_n hx hb dX8_part_11 rfl (lv_at hl 0 rfl) ?_
    exact E30 _ hf ls (lv_sub hl [0, 1, 2] rfl)
  · have hf := ifn c31 hf
    refine lv_lload_n hx hb dX8_part_6 rfl (lv_at hl 0 rfl) ?_
    refine lv_lneg hx hb dX8_part_7 ?_
    refine lv_goto (tgt := 12) hx hb dX8_part_8 (by decide) ?_
    exact E30 _ hf ls (lv_sub hl [0, 1, 2] rfl)
set_option maxHeartbeats 4000000 in
set_option maxRecDepth 100000 in
theorem kX8_draughts (l : Launch) (D : va_G) (G : Nat → ClassId) (fu : Nat) (q_t q_t_book q_t_now q_t_does q_t_bad q_t_likes q_t_sight q_t_pad q_t_then q_t_ahead q_t_most q_t_worth q_t_damp q_t_next q_t_image q_t_isKept : Nat) (t_there : Int32) (t_sights : Int32) (t_signs : Int32) (t_worseAt : Int32) (t_worseWho : Int32) (t_hours : Int32) (t_reason : Int32) (t_acts : Int32) (t_book : Nat → Int32) (t_does : Nat → Int32) (t_damp : Nat → Int64) (t_next : Nat → Int64) (v1 : Int32) (v2 : Int32) (v3 : Int32) (v4 : Int32) (v5 : Int32) {r : Int64} {o_t_damp : Nat → Int64} {o_t_next : Nat → Int64} (hf : fX8_draughts fu t_there t_book t_does t_damp t_next v1 v2 v3 v4 v5 = some (r, o_t_damp, o_t_next)) : rW l D G yX8_draughts cX8_draughts 12 (some .long) 3 103 [.ref q_t, .int v1, .int v2, .int v3, .int v4, .int v5] [(q_t, .inr (8, [.int t_there, .ref q_t_book, .ref q_t_now, .ref q_t_does, .ref q_t_bad, .ref q_t_likes, .int t_sights, .ref q_t_sight, .int t_signs, .ref q_t_pad, .ref q_t_then, .int t_worseAt, .int t_worseWho, .int t_hours, .ref q_t_ahead, .int t_reason, .int t_acts, .ref q_t_most, .ref q_t_worth, .ref q_t_damp, .ref q_t_next, .ref q_t_image, .ref q_t_isKept])), (q_t_book, .inl (G 0, 26, .inl t_book)), (q_t_does, .inl (G 0, 12, .inl t_does)), (q_t_damp, .inl (G 1, 21, .inr (.inl t_damp))), (q_t_next, .inl (G 1, 21, .inr (.inl t_next)))] [(q_t, .inr (8, [.int t_there, .ref q_t_book, .ref q_t_now, .ref q_t_does, .ref q_t_bad, .ref q_t_likes, .int t_sights, .ref q_t_sight, .int t_signs, .ref q_t_pad, .ref q_t_then, .int t_worseAt, .int t_worseWho, .int t_hours, .ref q_t_ahead, .int t_reason, .int t_acts, .ref q_t_most, .ref q_t_worth, .ref q_t_damp, .ref q_t_next, .ref q_t_image, .ref q_t_isKept])), (q_t_book, .inl (G 0, 26, .inl t_book)), (q_t_does, .inl (G 0, 12, .inl t_does)), (q_t_damp, .inl (G 1, 21, .inr (.inl o_t_damp))), (q_t_next, .inl (G 1, 21, .inr (.inl o_t_next)))] (some (.long r)) := by
  refine rW_of (by decide) (Nat.le_of_ble_eq_true rfl) ?_
  intro p e s m args below meth c Q A hx hb hml hown hts hK hn hA RET H locs hP hD hS ls hl
  have RT : ∀ (a0_ : Int64) (a1_ : Nat → Int64) (a2_ : Nat → Int64), some (a0_, a1_, a2_) = some (r, o_t_damp, o_t_next) → ∀ (pc : Nat) (ls : Array Slot) (ins : Instr) (H : Heap) (locs : List Loc), decode cX8_draughts pc = .ok (ins, 1) → rk (some .long) (some (.long a0_)) ins → va_P D vwCl [(q_t, .inr (8, [.int t_there, .ref q_t_book, .ref q_t_now, .ref q_t_does, .ref q_t_bad, .ref q_t_likes, .int t_sights, .ref q_t_sight, .int t_signs, .ref q_t_pad, .ref q_t_then, .int t_worseAt, .int t_worseWho, .int t_hours, .ref q_t_ahead, .int t_reason, .int t_acts, .ref q_t_most, .ref q_t_worth, .ref q_t_damp, .ref q_t_next, .ref q_t_image, .ref q_t_isKept])), (q_t_book, .inl (G 0, 26, .inl t_book)), (q_t_does, .inl (G 0, 12, .inl t_does)), (q_t_damp, .inl (G 1, 21, .inr (.inl a1_))), (q_t_next, .inl (G 1, 21, .inr (.inl a2_)))] H → va_D A [(q_t, .inr (8, [.int t_there, .ref q_t_book, .ref q_t_now, .ref q_t_does, .ref q_t_bad, .ref q_t_likes, .int t_sights, .ref q_t_sight, .int t_signs, .ref q_t_pad, .ref q_t_then, .int t_worseAt, .int t_worseWho, .int t_hours, .ref q_t_ahead, .int t_reason, .int t_acts, .ref q_t_most, .ref q_t_worth, .ref q_t_damp, .ref q_t_next, .ref q_t_image, .ref q_t_isKept])), (q_t_book, .inl (G 0, 26, .inl t_book)), (q_t_does, .inl (G 0, 12, .inl t_does)), (q_t_damp, .inl (G 1, 21, .inr (.inl a1_))), (q_t_next, .inl (G 1, 21, .inr (.inl a2_)))] → va_S A s.heap H locs → W p l e (kR 3 103) s m args below meth c H locs 0 0 Q (F0 m pc ls [.long a0_]) := by
    intro a0_ a1_ a2_ hy; obtain ⟨rfl, rfl, rfl⟩ := sm3 hy
    exact RET
  have hown : s.vm.findClass RX8 = some m.cls := hown
  have hl : lv_has ls 12 [(0, .ref q_t), (1, .int v1), (2, .int v2), (3, .int v3), (4, .int v4), (5, .int v5)] := hl
  clear RET
  rw [fX8_draughts] at hf
  refine lv_aload_n hx hb dX8_draughts_0 rfl (lv_at hl 0 rfl) ?_
  refine lv_iload_n hx hb dX8_draughts_1 rfl (lv_at hl 1 rfl) ?_
  obtain ⟨r1, h2, hf⟩ := bd1E hf
  refine kO_virt hx hb hml hown hts hK hn hP (kX8_isThere l D G q_t q_t_book q_t_now q_t_does q_t_bad q_t_likes q_t_sight q_t_pad q_t_then q_t_ahead q_t_most q_t_worth q_t_damp q_t_next q_t_image q_t_isKept t_there t_sights t_signs t_worseAt t_worseWho t_hours t_reason t_acts v1 h2) cvX8_73 ⟨Nat.le_of_ble_eq_true rfl, Nat.le_of_ble_eq_true rfl⟩ [0] rfl 0 rfl rfl rfl hl.1 rfl (Nat.le_of_ble_eq_true rfl) ⟨Nat.zero_le _, Nat.zero_le _⟩ dX8_draughts_2 ?_
  refine lv_if_ne (tgt := 12) hx hb dX8_draughts_5 (by decide) (fun c3 => ?_) (fun c3 => ?_)
  · have hf := ifn c3 hf
    refine lv_iload_n hx hb dX8_draughts_12 rfl (lv_at hl 2 rfl) ?_
    refine lv_iconst (v := (0 : Int32)) hx hb dX8_draughts_13 (by decide) ?_
    refine lv_bipush (v := (9 : Int32)) hx hb dX8_draughts_14 (by decide) ?_
    obtain ⟨r4, h5, hf⟩ := bd1E hf
    refine kO_stat hx hb hml hown hts hK hn hP (kX8_in l D G v2 (0 : Int32) (9 : Int32) h5) csX8_61 ⟨Nat.le_of_ble_eq_true rfl, Nat.le_of_ble_eq_true rfl⟩ [] rfl rfl hl.1 rfl (Nat.le_of_ble_eq_true rfl) ⟨Nat.zero_le _, Nat.zero_le _⟩ dX8_draughts_16 ?_
    refine lv_if_eq (tgt := 53) hx hb dX8_draughts_19 (by decide) (fun c6 => ?_) (fun c6 => ?_)
    · have hf := ifp c6 hf
      refine lv_ldc2 (v := (-1000000000000000002 : Int64)) hx hb hown (hts _ lcX8_156) dX8_draughts_53 ?_
      exact RT _ _ _ hf _ _ _ H locs dX8_draughts_56 (rkL _) hP hD hS
    · have hf := ifn c6 hf
      refine lv_iload_n hx hb dX8_draughts_22 rfl (lv_at hl 3 rfl) ?_
      refine lv_iconst (v := (0 : Int32)) hx hb dX8_draughts_23 (by decide) ?_
      refine lv_bipush (v := (10 : Int32)) hx hb dX8_draughts_24 (by decide) ?_
      obtain ⟨r7, h8, hf⟩ := bd1E hf
      refine kO_stat hx hb hml hown hts hK hn hP (kX8_in l D G v3 (0 : Int32) (10 : Int32) h8) csX8_61 ⟨Nat.le_of_ble_eq_true rfl, Nat.le_of_ble_eq_true rfl⟩ [] rfl rfl hl.1 rfl (Nat.le_of_ble_eq_true rfl) ⟨Nat.zero_le _, Nat.zero_le _⟩ dX8_draughts_26 ?_
      refine lv_if_eq (tgt := 53) hx hb dX8_draughts_29 (by decide) (fun c9 => ?_) (fun c9 => ?_)
      · have hf := ifp c9 hf
        refine lv_ldc2 (v := (-1000000000000000002 : Int64)) hx hb hown (hts _ lcX8_156) dX8_draughts_53 ?_
        exact RT _ _ _ hf _ _ _ H locs dX8_draughts_56 (rkL _) hP hD hS
      · have hf := ifn c9 hf
        refine lv_iload hx hb dX8_draughts_32 (lv_at hl 4 rfl) ?_
        refine lv_iconst (v := (0 : Int32)) hx hb dX8_draughts_34 (by decide) ?_
        refine lv_bipush (v := (20 : Int32)) hx hb dX8_draughts_35 (by decide) ?_
        obtain ⟨r10, h11, hf⟩ := bd1E hf
        refine kO_stat hx hb hml hown hts hK hn hP (kX8_in l D G v4 (0 : Int32) (20 : Int32) h11) csX8_61 ⟨Nat.le_of_ble_eq_true rfl, Nat.le_of_ble_eq_true rfl⟩ [] rfl rfl hl.1 rfl (Nat.le_of_ble_eq_true rfl) ⟨Nat.zero_le _, Nat.zero_le _⟩ dX8_draughts_37 ?_
        refine lv_if_eq (tgt := 53) hx hb dX8_draughts_40 (by decide) (fun c12 => ?_) (fun c12 => ?_)
        · have hf := ifp c12 hf
          refine lv_ldc2 (v := (-1000000000000000002 : Int64)) hx hb hown (hts _ lcX8_156) dX8_draughts_53 ?_
          exact RT _ _ _ hf _ _ _ H locs dX8_draughts_56 (rkL _) hP hD hS
        · have hf := ifn c12 hf
          refine lv_iload hx hb dX8_draughts_43 (lv_at hl 5 rfl) ?_
          refine lv_iconst (v := (0 : Int32)) hx hb dX8_draughts_45 (by decide) ?_
          refine lv_iconst (v := (1 : Int32)) hx hb dX8_draughts_46 (by decide) ?_
          obtain ⟨r13, h14, hf⟩ := bd1E hf
          refine kO_stat hx hb hml hown hts hK hn hP (kX8_in l D G v5 (0 : Int32) (1 : Int32) h14) csX8_61 ⟨Nat.le_of_ble_eq_true rfl, Nat.le_of_ble_eq_true rfl⟩ [] rfl rfl hl.1 rfl (Nat.le_of_ble_eq_true rfl) ⟨Nat.zero_le _, Nat.zero_le _⟩ dX8_draughts_47 ?_
          refine lv_if_ne (tgt := 57) hx hb dX8_draughts_50 (by decide) (fun c15 => ?_) (fun c15 => ?_)
          · have hf := ifn c15 hf
            refine lv_aload_n hx hb dX8_draughts_57 rfl (lv_at hl 0 rfl) ?_
            refine va_get (D := D) (ci := 8) (v := .ref q_t_does) (C := RX8) (T := TX8) (N := 23) hx hb hts inX8 hown hK hP 0 rfl rfl 3 (by decide) (hts _ lfX8_16) (fun _ h9 => h9) rfl dX8_draughts_58 ?_
            refine lv_iconst (v := (3 : Int32)) hx hb dX8_draughts_61 (by decide) ?_
            refine lv_aload_n hx hb dX8_draughts_62 rfl (lv_at hl 0 rfl) ?_
            refine va_get (D := D) (ci := 8) (v := .ref q_t_book) (C := RX8) (T := TX8) (N := 23) hx hb hts inX8 hown hK hP 0 rfl rfl 1 (by decide) (hts _ lfX8_7) (fun _ h9 => h9) rfl dX8_draughts_63 ?_
            refine lv_bipush (v := (18 : Int32)) hx hb dX8_draughts_66 (by decide) ?_
            refine lv_iload_n hx hb dX8_draughts_68 rfl (lv_at hl 1 rfl) ?_
            refine lv_iadd hx hb dX8_draughts_69 ?_
            obtain ⟨x16, ex16, ix16, hf⟩ := ldIE hf
            refine k_iald hx hb hK hP 1 0 rfl rfl ix16 ex16 dX8_draughts_70 ?_
            refine lv_imul hx hb dX8_draughts_71 ?_
            refine lv_iconst (v := (2 : Int32)) hx hb dX8_draughts_72 (by decide) ?_
            refine lv_iadd hx hb dX8_draughts_73 ?_
            obtain ⟨x17, ex17, ix17, hf⟩ := ldIE hf
            refine k_iald hx hb hK hP 2 0 rfl rfl ix17 ex17 dX8_draughts_74 ?_
            refine lv_istore (lv' := [(6, .int x17), (0, .ref q_t), (1, .int v1), (2, .int v2), (3, .int v3), (4, .int v4), (5, .int v5)]) hx hb dX8_draughts_75 hl (by decide) rfl (fun ls hl => ?_)
            refine lv_lconst (v := (1 : Int64)) hx hb dX8_draughts_77 (by decide) ?_
            refine lv_lstore (lv' := [(7, .long (1 : Int64)), (6, .int x17), (0, .ref q_t), (1, .int v1), (2, .int v2), (3, .int v3), (4, .int v4), (5, .int v5)]) hx hb dX8_draughts_78 hl (by decide) rfl (fun ls hl => ?_)
            refine lv_iconst (v := (0 : Int32)) hx hb dX8_draughts_80 (by decide) ?_
            refine lv_istore (lv' := [(9, .int (0 : Int32)), (7, .long (1 : Int64)), (6, .int x17), (0, .ref q_t), (1, .int v1), (2, .int v2), (3, .int v3), (4, .int v4), (5, .int v5)]) hx hb dX8_draughts_81 hl (by decide) rfl (fun ls hl => ?_)
            obtain ⟨u50, h54, hf⟩ := bd1E hf
            have E51 : ∀ (z67 : Nat → Int64), some z67 = some u50 → ∀ (H : Heap) (locs : List Loc), va_P D vwCl [(q_t, .inr (8, [.int t_there, .ref q_t_book, .ref q_t_now, .ref q_t_does, .ref q_t_bad, .ref q_t_likes, .int t_sights, .ref q_t_sight, .int t_signs, .ref q_t_pad, .ref q_t_then, .int t_worseAt, .int t_worseWho, .int t_hours, .ref q_t_ahead, .int t_reason, .int t_acts, .ref q_t_most, .ref q_t_worth, .ref q_t_damp, .ref q_t_next, .ref q_t_image, .ref q_t_isKept])), (q_t_book, .inl (G 0, 26, .inl t_book)), (q_t_does, .inl (G 0, 12, .inl t_does)), (q_t_damp, .inl (G 1, 21, .inr (.inl z67))), (q_t_next, .inl (G 1, 21, .inr (.inl t_next)))] H → va_D A [(q_t, .inr (8, [.int t_there, .ref q_t_book, .ref q_t_now, .ref q_t_does, .ref q_t_bad, .ref q_t_likes, .int t_sights, .ref q_t_sight, .int t_signs, .ref q_t_pad, .ref q_t_then, .int t_worseAt, .int t_worseWho, .int t_hours, .ref q_t_ahead, .int t_reason, .int t_acts, .ref q_t_most, .ref q_t_worth, .ref q_t_damp, .ref q_t_next, .ref q_t_image, .ref q_t_isKept])), (q_t_book, .inl (G 0, 26, .inl t_book)), (q_t_does, .inl (G 0, 12, .inl t_does)), (q_t_damp, .inl (G 1, 21, .inr (.inl z67))), (q_t_next, .inl (G 1, 21, .inr (.inl t_next)))] → va_S A s.heap H locs → ∀ ls : Array Slot, lv_has ls 12 [(0, .ref q_t), (2, .int v2), (3, .int v3), (4, .int v4), (5, .int v5), (6, .int x17), (7, .long (1 : Int64))] → W p l e (kR 3 103) s m args below meth c H locs 0 0 Q (F0 m 123 ls []) := by
              intro z67 hy; obtain rfl := sm1 hy
              intro H locs hP hD hS ls hl
              refine lv_iconst (v := (0 : Int32)) hx hb dX8_draughts_123 (by decide) ?_
              refine lv_istore (lv' := [(9, .int (0 : Int32)), (0, .ref q_t), (2, .int v2), (3, .int v3), (4, .int v4), (5, .int v5), (6, .int x17), (7, .long (1 : Int64))]) hx hb dX8_draughts_124 hl (by decide) rfl (fun ls hl => ?_)
              obtain ⟨u222, u223, u224, h228, hf⟩ := bd3E hf
              have E225 : ∀ (z362 : Int64) (z363 : Nat → Int64) (z364 : Nat → Int64), some (z362, z363, z364) = some (u222, u223, u224) → ∀ (H : Heap) (locs : List Loc), va_P D vwCl [(q_t, .inr (8, [.int t_there, .ref q_t_book, .ref q_t_now, .ref q_t_does, .ref q_t_bad, .ref q_t_likes, .int t_sights, .ref q_t_sight, .int t_signs, .ref q_t_pad, .ref q_t_then, .int t_worseAt, .int t_worseWho, .int t_hours, .ref q_t_ahead, .int t_reason, .int t_acts, .ref q_t_most, .ref q_t_worth, .ref q_t_damp, .ref q_t_next, .ref q_t_image, .ref q_t_isKept])), (q_t_book, .inl (G 0, 26, .inl t_book)), (q_t_does, .inl (G 0, 12, .inl t_does)), (q_t_damp, .inl (G 1, 21, .inr (.inl z363))), (q_t_next, .inl (G 1, 21, .inr (.inl z364)))] H → va_D A [(q_t, .inr (8, [.int t_there, .ref q_t_book, .ref q_t_now, .ref q_t_does, .ref q_t_bad, .ref q_t_likes, .int t_sights, .ref q_t_sight, .int t_signs, .ref q_t_pad, .ref q_t_then, .int t_worseAt, .int t_worseWho, .int t_hours, .ref q_t_ahead, .int t_reason, .int t_acts, .ref q_t_most, .ref q_t_worth, .ref q_t_damp, .ref q_t_next, .ref q_t_image, .ref q_t_isKept])), (q_t_book, .inl (G 0, 26, .inl t_book)), (q_t_does, .inl (G 0, 12, .inl t_does)), (q_t_damp, .inl (G 1, 21, .inr (.inl z363))), (q_t_next, .inl (G 1, 21, .inr (.inl z364)))] → va_S A s.heap H locs → ∀ ls : Array Slot, lv_has ls 12 [(0, .ref q_t), (4, .int v4), (5, .int v5), (7, .long z362)] → W p l e (kR 3 103) s m args below meth c H locs 0 0 Q (F0 m 273 ls []) := by
                intro z362 z363 z364 hy; obtain ⟨rfl, rfl, rfl⟩ := sm3 hy
                intro H locs hP hD hS ls hl
                refine lv_lconst (v := (0 : Int64)) hx hb dX8_draughts_273 (by decide) ?_
                refine lv_lstore (lv' := [(9, .long (0 : Int64)), (0, .ref q_t), (4, .int v4), (5, .int v5), (7, .long z362)]) hx hb dX8_draughts_274 hl (by decide) rfl (fun ls hl => ?_)
                refine lv_iconst (v := (0 : Int32)) hx hb dX8_draughts_276 (by decide) ?_
                refine lv_istore (lv' := [(11, .int (0 : Int32)), (9, .long (0 : Int64)), (0, .ref q_t), (4, .int v4), (5, .int v5), (7, .long z362)]) hx hb dX8_draughts_277 hl (by decide) rfl (fun ls hl => ?_)
                obtain ⟨u388, h392, hf⟩ := bd1E hf
                have E389 : ∀ (z399 : Int64), some z399 = some u388 → ∀ (H : Heap) (locs : List Loc), va_P D vwCl [(q_t, .inr (8, [.int t_there, .ref q_t_book, .ref q_t_now, .ref q_t_does, .ref q_t_bad, .ref q_t_likes, .int t_sights, .ref q_t_sight, .int t_signs, .ref q_t_pad, .ref q_t_then, .int t_worseAt, .int t_worseWho, .int t_hours, .ref q_t_ahead, .int t_reason, .int t_acts, .ref q_t_most, .ref q_t_worth, .ref q_t_damp, .ref q_t_next, .ref q_t_image, .ref q_t_isKept])), (q_t_book, .inl (G 0, 26, .inl t_book)), (q_t_does, .inl (G 0, 12, .inl t_does)), (q_t_damp, .inl (G 1, 21, .inr (.inl z363))), (q_t_next, .inl (G 1, 21, .inr (.inl z364)))] H → va_D A [(q_t, .inr (8, [.int t_there, .ref q_t_book, .ref q_t_now, .ref q_t_does, .ref q_t_bad, .ref q_t_likes, .int t_sights, .ref q_t_sight, .int t_signs, .ref q_t_pad, .ref q_t_then, .int t_worseAt, .int t_worseWho, .int t_hours, .ref q_t_ahead, .int t_reason, .int t_acts, .ref q_t_most, .ref q_t_worth, .ref q_t_damp, .ref q_t_next, .ref q_t_image, .ref q_t_isKept])), (q_t_book, .inl (G 0, 26, .inl t_book)), (q_t_does, .inl (G 0, 12, .inl t_does)), (q_t_damp, .inl (G 1, 21, .inr (.inl z363))), (q_t_next, .inl (G 1, 21, .inr (.inl z364)))] → va_S A s.heap H locs → ∀ ls : Array Slot, lv_has ls 12 [(5, .int v5), (7, .long z362), (9, .long z399)] → W p l e (kR 3 103) s m args below meth c H locs 0 0 Q (F0 m 304 ls []) := by
                  intro z399 hy; obtain rfl := sm1 hy
                  intro H locs hP hD hS ls hl
                  refine lv_lload hx hb dX8_draughts_304 (lv_at hl 2 rfl) ?_
                  refine lv_lload hx hb dX8_draughts_306 (lv_at hl 1 rfl) ?_
                  refine lv_iload hx hb dX8_draughts_308 (lv_at hl 0 rfl) ?_
                  obtain ⟨r400, h401, hf⟩ := bd1E hf
                  refine kO_stat hx hb hml hown hts hK hn hP (kX8_part l D G fu z399 z362 v5 h401) csX8_160 ⟨Nat.le_of_ble_eq_true rfl, Nat.le_of_ble_eq_true rfl⟩ [] rfl rfl hl.1 rfl (Nat.le_of_ble_eq_true rfl) ⟨Nat.zero_le _, Nat.zero_le _⟩ dX8_draughts_310 ?_
                  exact RT _ _ _ hf _ _ _ H locs dX8_draughts_313 (rkL _) hP hD hS
                have L390 : ∀ (k : Nat) (w386 : Int64) (w387 : Int32), fX8_draughts_279 v4 z363 k w386 w387 = some u388 → ∀ (H : Heap) (locs : List Loc), va_P D vwCl [(q_t, .inr (8, [.int t_there, .ref q_t_book, .ref q_t_now, .ref q_t_does, .ref q_t_bad, .ref q_t_likes, .int t_sights, .ref q_t_sight, .int t_signs, .ref q_t_pad, .ref q_t_then, .int t_worseAt, .int t_worseWho, .int t_hours, .ref q_t_ahead, .int t_reason, .int t_acts, .ref q_t_most, .ref q_t_worth, .ref q_t_damp, .ref q_t_next, .ref q_t_image, .ref q_t_isKept])), (q_t_book, .inl (G 0, 26, .inl t_book)), (q_t_does, .inl (G 0, 12, .inl t_does)), (q_t_damp, .inl (G 1, 21, .inr (.inl z363))), (q_t_next, .inl (G 1, 21, .inr (.inl z364)))] H → va_D A [(q_t, .inr (8, [.int t_there, .ref q_t_book, .ref q_t_now, .ref q_t_does, .ref q_t_bad, .ref q_t_likes, .int t_sights, .ref q_t_sight, .int t_signs, .ref q_t_pad, .ref q_t_then, .int t_worseAt, .int t_worseWho, .int t_hours, .ref q_t_ahead, .int t_reason, .int t_acts, .ref q_t_most, .ref q_t_worth, .ref q_t_damp, .ref q_t_next, .ref q_t_image, .ref q_t_isKept])), (q_t_book, .inl (G 0, 26, .inl t_book)), (q_t_does, .inl (G 0, 12, .inl t_does)), (q_t_damp, .inl (G 1, 21, .inr (.inl z363))), (q_t_next, .inl (G 1, 21, .inr (.inl z364)))] → va_S A s.heap H locs → ∀ ls : Array Slot, lv_has ls 12 [(0, .ref q_t), (4, .int v4), (5, .int v5), (7, .long z362), (9, .long w386), (11, .int w387)] → W p l e (kR 3 103) s m args below meth c H locs 0 0 Q (F0 m 279 ls []) := by
                  intro k; induction k with
                  | zero => intro w386 w387 hf; exact nosome hf
                  | succ k ih =>
                    intro w386 w387 hf; rw [fX8_draughts_279] at hf
                    intro H locs hP hD hS ls hl
                    refine lv_iload hx hb dX8_draughts_279 (lv_at hl 5 rfl) ?_
                    refine lv_iload hx hb dX8_draughts_281 (lv_at hl 1 rfl) ?_
                    refine lv_icmp_gt (tgt := 304) hx hb dX8_draughts_283 (by decide) (fun c395 => ?_) (fun c395 => ?_)
                    · have hf := ifp c395 hf
                      exact E389 _ hf H locs hP hD hS ls (lv_sub hl [2, 3, 4] rfl)
                    · have hf := ifn c395 hf
                      refine lv_lload hx hb dX8_draughts_286 (lv_at hl 4 rfl) ?_
                      refine lv_aload_n hx hb dX8_draughts_288 rfl (lv_at hl 0 rfl) ?_
                      refine va_get (D := D) (ci := 8) (v := .ref q_t_damp) (C := RX8) (T := TX8) (N := 23) hx hb hts inX8 hown hK hP 0 rfl rfl 19 (by decide) (hts _ lfX8_44) (fun _ h9 => h9) rfl dX8_draughts_289 ?_
                      refine lv_iload hx hb dX8_draughts_292 (lv_at hl 5 rfl) ?_
                      obtain ⟨x396, ex396, ix396, hf⟩ := ldLE hf
                      refine k_lald hx hb hK hP 3 1 rfl rfl ix396 ex396 dX8_draughts_294 ?_
                      refine lv_ladd hx hb dX8_draughts_295 ?_
                      refine lv_topl (fun y397 ey397 => ?_)
                      have hf := nmeU ey397 hf
                      refine lv_lstore (lv' := [(9, .long y397), (0, .ref q_t), (4, .int v4), (5, .int v5), (7, .long z362), (11, .int w387)]) hx hb dX8_draughts_296 hl (by decide) rfl (fun ls hl => ?_)
                      obtain ⟨y398, ey398⟩ : ∃ y : Int32, y = w387 + (1 : Int32) := ⟨_, rfl⟩
                      have hf := nmeU ey398 hf
                      refine lv_iinc (v := y398) (lv' := [(11, .int y398), (9, .long y397), (0, .ref q_t), (4, .int v4), (5, .int v5), (7, .long z362)]) hx hb dX8_draughts_298 hl (k := 5) rfl (by rw [ey398]; rfl) (by decide) rfl (fun ls hl => ?_)
                      refine lv_goto (tgt := 279) hx hb dX8_draughts_301 (by decide) ?_
                      exact ih _ _ hf H locs hP hD hS ls (lv_sub hl [2, 3, 4, 5, 1, 0] rfl)
                exact L390 fu (0 : Int64) (0 : Int32) h392 H locs hP hD hS ls (lv_sub hl [2, 3, 4, 5, 1, 0] rfl)
              have L226 : ∀ (k : Nat) (w218 : Int64) (w219 : Int32) (w220 : Nat → Int64) (w221 : Nat → Int64), fX8_draughts_126 fu v2 x17 v3 k w218 w219 w220 w221 = some (u222, u223, u224) → ∀ (H : Heap) (locs : List Loc), va_P D vwCl [(q_t, .inr (8, [.int t_there, .ref q_t_book, .ref q_t_now, .ref q_t_does, .ref q_t_bad, .ref q_t_likes, .int t_sights, .ref q_t_sight, .int t_signs, .ref q_t_pad, .ref q_t_then, .int t_worseAt, .int t_worseWho, .int t_hours, .ref q_t_ahead, .int t_reason, .int t_acts, .ref q_t_most, .ref q_t_worth, .ref q_t_damp, .ref q_t_next, .ref q_t_image, .ref q_t_isKept])), (q_t_book, .inl (G 0, 26, .inl t_book)), (q_t_does, .inl (G 0, 12, .inl t_does)), (q_t_damp, .inl (G 1, 21, .inr (.inl w220))), (q_t_next, .inl (G 1, 21, .inr (.inl w221)))] H → va_D A [(q_t, .inr (8, [.int t_there, .ref q_t_book, .ref q_t_now, .ref q_t_does, .ref q_t_bad, .ref q_t_likes, .int t_sights, .ref q_t_sight, .int t_signs, .ref q_t_pad, .ref q_t_then, .int t_worseAt, .int t_worseWho, .int t_hours, .ref q_t_ahead, .int t_reason, .int t_acts, .ref q_t_most, .ref q_t_worth, .ref q_t_damp, .ref q_t_next, .ref q_t_image, .ref q_t_isKept])), (q_t_book, .inl (G 0, 26, .inl t_book)), (q_t_does, .inl (G 0, 12, .inl t_does)), (q_t_damp, .inl (G 1, 21, .inr (.inl w220))), (q_t_next, .inl (G 1, 21, .inr (.inl w221)))] → va_S A s.heap H locs → ∀ ls : Array Slot, lv_has ls 12 [(0, .ref q_t), (2, .int v2), (3, .int v3), (4, .int v4), (5, .int v5), (6, .int x17), (7, .long w218), (9, .int w219)] → W p l e (kR 3 103) s m args below meth c H locs 0 0 Q (F0 m 126 ls []) := by
                intro k; induction k with
                | zero => intro w218 w219 w220 w221 hf; exact nosome hf
                | succ k ih =>
                  intro w218 w219 w220 w221 hf; rw [fX8_draughts_126] at hf
                  intro H locs hP hD hS ls hl
                  refine lv_iload hx hb dX8_draughts_126 (lv_at hl 7 rfl) ?_
                  refine lv_iload_n hx hb dX8_draughts_128 rfl (lv_at hl 1 rfl) ?_
                  refine lv_icmp_ge (tgt := 273) hx hb dX8_draughts_129 (by decide) (fun c231 => ?_) (fun c231 => ?_)
                  · have hf := ifp c231 hf
                    exact E225 _ _ _ hf H locs hP hD hS ls (lv_sub hl [0, 3, 4, 6] rfl)
                  · have hf := ifn c231 hf
                    refine lv_iconst (v := (0 : Int32)) hx hb dX8_draughts_132 (by decide) ?_
                    refine lv_istore (lv' := [(10, .int (0 : Int32)), (0, .ref q_t), (2, .int v2), (3, .int v3), (4, .int v4), (5, .int v5), (6, .int x17), (7, .long w218), (9, .int w219)]) hx hb dX8_draughts_133 hl (by decide) rfl (fun ls hl => ?_)
                    obtain ⟨u257, h261, hf⟩ := bd1E hf
                    have E258 : ∀ (z267 : Nat → Int64), some z267 = some u257 → ∀ (H : Heap) (locs : List Loc), va_P D vwCl [(q_t, .inr (8, [.int t_there, .ref q_t_book, .ref q_t_now, .ref q_t_does, .ref q_t_bad, .ref q_t_likes, .int t_sights, .ref q_t_sight, .int t_signs, .ref q_t_pad, .ref q_t_then, .int t_worseAt, .int t_worseWho, .int t_hours, .ref q_t_ahead, .int t_reason, .int t_acts, .ref q_t_most, .ref q_t_worth, .ref q_t_damp, .ref q_t_next, .ref q_t_image, .ref q_t_isKept])), (q_t_book, .inl (G 0, 26, .inl t_book)), (q_t_does, .inl (G 0, 12, .inl t_does)), (q_t_damp, .inl (G 1, 21, .inr (.inl w220))), (q_t_next, .inl (G 1, 21, .inr (.inl z267)))] H → va_D A [(q_t, .inr (8, [.int t_there, .ref q_t_book, .ref q_t_now, .ref q_t_does, .ref q_t_bad, .ref q_t_likes, .int t_sights, .ref q_t_sight, .int t_signs, .ref q_t_pad, .ref q_t_then, .int t_worseAt, .int t_worseWho, .int t_hours, .ref q_t_ahead, .int t_reason, .int t_acts, .ref q_t_most, .ref q_t_worth, .ref q_t_damp, .ref q_t_next, .ref q_t_image, .ref q_t_isKept])), (q_t_book, .inl (G 0, 26, .inl t_book)), (q_t_does, .inl (G 0, 12, .inl t_does)), (q_t_damp, .inl (G 1, 21, .inr (.inl w220))), (q_t_next, .inl (G 1, 21, .inr (.inl z267)))] → va_S A s.heap H locs → ∀ ls : Array Slot, lv_has ls 12 [(0, .ref q_t), (2, .int v2), (3, .int v3), (4, .int v4), (5, .int v5), (6, .int x17), (7, .long w218), (9, .int w219)] → W p l e (kR 3 103) s m args below meth c H locs 0 0 Q (F0 m 156 ls []) := by
                      intro z267 hy; obtain rfl := sm1 hy
                      intro H locs hP hD hS ls hl
                      refine lv_iconst (v := (0 : Int32)) hx hb dX8_draughts_156 (by decide) ?_
                      refine lv_istore (lv' := [(10, .int (0 : Int32)), (0, .ref q_t), (2, .int v2), (3, .int v3), (4, .int v4), (5, .int v5), (6, .int x17), (7, .long w218), (9, .int w219)]) hx hb dX8_draughts_157 hl (by decide) rfl (fun ls hl => ?_)
                      obtain ⟨u302, h306, hf⟩ := bd1E hf
                      have E303 : ∀ (z321 : Nat → Int64), some z321 = some u302 → ∀ (H : Heap) (locs : List Loc), va_P D vwCl [(q_t, .inr (8, [.int t_there, .ref q_t_book, .ref q_t_now, .ref q_t_does, .ref q_t_bad, .ref q_t_likes, .int t_sights, .ref q_t_sight, .int t_signs, .ref q_t_pad, .ref q_t_then, .int t_worseAt, .int t_worseWho, .int t_hours, .ref q_t_ahead, .int t_reason, .int t_acts, .ref q_t_most, .ref q_t_worth, .ref q_t_damp, .ref q_t_next, .ref q_t_image, .ref q_t_isKept])), (q_t_book, .inl (G 0, 26, .inl t_book)), (q_t_does, .inl (G 0, 12, .inl t_does)), (q_t_damp, .inl (G 1, 21, .inr (.inl w220))), (q_t_next, .inl (G 1, 21, .inr (.inl z321)))] H → va_D A [(q_t, .inr (8, [.int t_there, .ref q_t_book, .ref q_t_now, .ref q_t_does, .ref q_t_bad, .ref q_t_likes, .int t_sights, .ref q_t_sight, .int t_signs, .ref q_t_pad, .ref q_t_then, .int t_worseAt, .int t_worseWho, .int t_hours, .ref q_t_ahead, .int t_reason, .int t_acts, .ref q_t_most, .ref q_t_worth, .ref q_t_damp, .ref q_t_next, .ref q_t_image, .ref q_t_isKept])), (q_t_book, .inl (G 0, 26, .inl t_book)), (q_t_does, .inl (G 0, 12, .inl t_does)), (q_t_damp, .inl (G 1, 21, .inr (.inl w220))), (q_t_next, .inl (G 1, 21, .inr (.inl z321)))] → va_S A s.heap H locs → ∀ ls : Array Slot, lv_has ls 12 [(0, .ref q_t), (2, .int v2), (3, .int v3), (4, .int v4), (5, .int v5), (6, .int x17), (7, .long w218), (9, .int w219)] → W p l e (kR 3 103) s m args below meth c H locs 0 0 Q (F0 m 229 ls []) := by
                        intro z321 hy; obtain rfl := sm1 hy
                        intro H locs hP hD hS ls hl
                        refine lv_iconst (v := (0 : Int32)) hx hb dX8_draughts_229 (by decide) ?_
                        refine lv_istore (lv' := [(10, .int (0 : Int32)), (0, .ref q_t), (2, .int v2), (3, .int v3), (4, .int v4), (5, .int v5), (6, .int x17), (7, .long w218), (9, .int w219)]) hx hb dX8_draughts_230 hl (by decide) rfl (fun ls hl => ?_)
                        obtain ⟨u348, h352, hf⟩ := bd1E hf
                        have E349 : ∀ (z359 : Nat → Int64), some z359 = some u348 → ∀ (H : Heap) (locs : List Loc), va_P D vwCl [(q_t, .inr (8, [.int t_there, .ref q_t_book, .ref q_t_now, .ref q_t_does, .ref q_t_bad, .ref q_t_likes, .int t_sights, .ref q_t_sight, .int t_signs, .ref q_t_pad, .ref q_t_then, .int t_worseAt, .int t_worseWho, .int t_hours, .ref q_t_ahead, .int t_reason, .int t_acts, .ref q_t_most, .ref q_t_worth, .ref q_t_damp, .ref q_t_next, .ref q_t_image, .ref q_t_isKept])), (q_t_book, .inl (G 0, 26, .inl t_book)), (q_t_does, .inl (G 0, 12, .inl t_does)), (q_t_damp, .inl (G 1, 21, .inr (.inl z359))), (q_t_next, .inl (G 1, 21, .inr (.inl z321)))] H → va_D A [(q_t, .inr (8, [.int t_there, .ref q_t_book, .ref q_t_now, .ref q_t_does, .ref q_t_bad, .ref q_t_likes, .int t_sights, .ref q_t_sight, .int t_signs, .ref q_t_pad, .ref q_t_then, .int t_worseAt, .int t_worseWho, .int t_hours, .ref q_t_ahead, .int t_reason, .int t_acts, .ref q_t_most, .ref q_t_worth, .ref q_t_damp, .ref q_t_next, .ref q_t_image, .ref q_t_isKept])), (q_t_book, .inl (G 0, 26, .inl t_book)), (q_t_does, .inl (G 0, 12, .inl t_does)), (q_t_damp, .inl (G 1, 21, .inr (.inl z359))), (q_t_next, .inl (G 1, 21, .inr (.inl z321)))] → va_S A s.heap H locs → ∀ ls : Array Slot, lv_has ls 12 [(0, .ref q_t), (2, .int v2), (3, .int v3), (4, .int v4), (5, .int v5), (6, .int x17), (7, .long w218), (9, .int w219)] → W p l e (kR 3 103) s m args below meth c H locs 0 0 Q (F0 m 259 ls []) := by
                          intro z359 hy; obtain rfl := sm1 hy
                          intro H locs hP hD hS ls hl
                          refine lv_lload hx hb dX8_draughts_259 (lv_at hl 6 rfl) ?_
                          refine lv_ldc2 (v := (10 : Int64)) hx hb hown (hts _ lcX8_158) dX8_draughts_261 ?_
                          refine lv_lmul hx hb dX8_draughts_264 ?_
                          refine lv_topl (fun y360 ey360 => ?_)
                          have hf := nmeU ey360 hf
                          refine lv_lstore (lv' := [(7, .long y360), (0, .ref q_t), (2, .int v2), (3, .int v3), (4, .int v4), (5, .int v5), (6, .int x17), (9, .int w219)]) hx hb dX8_draughts_265 hl (by decide) rfl (fun ls hl => ?_)
                          obtain ⟨y361, ey361⟩ : ∃ y : Int32, y = w219 + (1 : Int32) := ⟨_, rfl⟩
                          have hf := nmeU ey361 hf
                          refine lv_iinc (v := y361) (lv' := [(9, .int y361), (7, .long y360), (0, .ref q_t), (2, .int v2), (3, .int v3), (4, .int v4), (5, .int v5), (6, .int x17)]) hx hb dX8_draughts_267 hl (k := 7) rfl (by rw [ey361]; rfl) (by decide) rfl (fun ls hl => ?_)
                          refine lv_goto (tgt := 126) hx hb dX8_draughts_270 (by decide) ?_
                          exact ih _ _ _ _ hf H locs hP hD hS ls (lv_sub hl [2, 3, 4, 5, 6, 7, 1, 0] rfl)
                        have L350 : ∀ (k : Nat) (w346 : Int32) (w347 : Nat → Int64), fX8_draughts_232 z321 k w346 w347 = some u348 → ∀ (H : Heap) (locs : List Loc), va_P D vwCl [(q_t, .inr (8, [.int t_there, .ref q_t_book, .ref q_t_now, .ref q_t_does, .ref q_t_bad, .ref q_t_likes, .int t_sights, .ref q_t_sight, .int t_signs, .ref q_t_pad, .ref q_t_then, .int t_worseAt, .int t_worseWho, .int t_hours, .ref q_t_ahead, .int t_reason, .int t_acts, .ref q_t_most, .ref q_t_worth, .ref q_t_damp, .ref q_t_next, .ref q_t_image, .ref q_t_isKept])), (q_t_book, .inl (G 0, 26, .inl t_book)), (q_t_does, .inl (G 0, 12, .inl t_does)), (q_t_damp, .inl (G 1, 21, .inr (.inl w347))), (q_t_next, .inl (G 1, 21, .inr (.inl z321)))] H → va_D A [(q_t, .inr (8, [.int t_there, .ref q_t_book, .ref q_t_now, .ref q_t_does, .ref q_t_bad, .ref q_t_likes, .int t_sights, .ref q_t_sight, .int t_signs, .ref q_t_pad, .ref q_t_then, .int t_worseAt, .int t_worseWho, .int t_hours, .ref q_t_ahead, .int t_reason, .int t_acts, .ref q_t_most, .ref q_t_worth, .ref q_t_damp, .ref q_t_next, .ref q_t_image, .ref q_t_isKept])), (q_t_book, .inl (G 0, 26, .inl t_book)), (q_t_does, .inl (G 0, 12, .inl t_does)), (q_t_damp, .inl (G 1, 21, .inr (.inl w347))), (q_t_next, .inl (G 1, 21, .inr (.inl z321)))] → va_S A s.heap H locs → ∀ ls : Array Slot, lv_has ls 12 [(0, .ref q_t), (2, .int v2), (3, .int v3), (4, .int v4), (5, .int v5), (6, .int x17), (7, .long w218), (9, .int w219), (10, .int w346)] → W p l e (kR 3 103) s m args below meth c H locs 0 0 Q (F0 m 232 ls []) := by
                          intro k; induction k with
                          | zero => intro w346 w347 hf; exact nosome hf
                          | succ k ih =>
                            intro w346 w347 hf; rw [fX8_draughts_232] at hf
                            intro H locs hP hD hS ls hl
                            refine lv_iload hx hb dX8_draughts_232 (lv_at hl 8 rfl) ?_
                            refine lv_bipush (v := (21 : Int32)) hx hb dX8_draughts_234 (by decide) ?_
                            refine lv_icmp_ge (tgt := 259) hx hb dX8_draughts_236 (by decide) (fun c355 => ?_) (fun c355 => ?_)
                            · have hf := ifp c355 hf
                              exact E349 _ hf H locs hP hD hS ls (lv_sub hl [0, 1, 2, 3, 4, 5, 6, 7] rfl)
                            · have hf := ifn c355 hf
                              refine lv_aload_n hx hb dX8_draughts_239 rfl (lv_at hl 0 rfl) ?_
                              refine va_get (D := D) (ci := 8) (v := .ref q_t_damp) (C := RX8) (T := TX8) (N := 23) hx hb hts inX8 hown hK hP 0 rfl rfl 19 (by decide) (hts _ lfX8_44) (fun _ h9 => h9) rfl dX8_draughts_240 ?_
                              refine lv_iload hx hb dX8_draughts_243 (lv_at hl 8 rfl) ?_
                              refine lv_aload_n hx hb dX8_draughts_245 rfl (lv_at hl 0 rfl) ?_
                              refine va_get (D := D) (ci := 8) (v := .ref q_t_next) (C := RX8) (T := TX8) (N := 23) hx hb hts inX8 hown hK hP 0 rfl rfl 20 (by decide) (hts _ lfX8_47) (fun _ h9 => h9) rfl dX8_draughts_246 ?_
                              refine lv_iload hx hb dX8_draughts_249 (lv_at hl 8 rfl) ?_
                              obtain ⟨x356, ex356, ix356, hf⟩ := ldLE hf
                              refine k_lald hx hb hK hP 4 1 rfl rfl ix356 ex356 dX8_draughts_251 ?_
                              obtain ⟨g357, eg357, ig357, hf⟩ := stLE hf
                              refine k_last hx hb hK hP hD hS 3 1 rfl rfl ig357 eg357 dX8_draughts_252 (fun H locs hP hD hS => ?_)
                              have hP : va_P D vwCl [(q_t, .inr (8, [.int t_there, .ref q_t_book, .ref q_t_now, .ref q_t_does, .ref q_t_bad, .ref q_t_likes, .int t_sights, .ref q_t_sight, .int t_signs, .ref q_t_pad, .ref q_t_then, .int t_worseAt, .int t_worseWho, .int t_hours, .ref q_t_ahead, .int t_reason, .int t_acts, .ref q_t_most, .ref q_t_worth, .ref q_t_damp, .ref q_t_next, .ref q_t_image, .ref q_t_isKept])), (q_t_book, .inl (G 0, 26, .inl t_book)), (q_t_does, .inl (G 0, 12, .inl t_does)), (q_t_damp, .inl (G 1, 21, .inr (.inl g357))), (q_t_next, .inl (G 1, 21, .inr (.inl z321)))] H := hP
                              have hD : va_D A [(q_t, .inr (8, [.int t_there, .ref q_t_book, .ref q_t_now, .ref q_t_does, .ref q_t_bad, .ref q_t_likes, .int t_sights, .ref q_t_sight, .int t_signs, .ref q_t_pad, .ref q_t_then, .int t_worseAt, .int t_worseWho, .int t_hours, .ref q_t_ahead, .int t_reason, .int t_acts, .ref q_t_most, .ref q_t_worth, .ref q_t_damp, .ref q_t_next, .ref q_t_image, .ref q_t_isKept])), (q_t_book, .inl (G 0, 26, .inl t_book)), (q_t_does, .inl (G 0, 12, .inl t_does)), (q_t_damp, .inl (G 1, 21, .inr (.inl g357))), (q_t_next, .inl (G 1, 21, .inr (.inl z321)))] := hD
                              obtain ⟨y358, ey358⟩ : ∃ y : Int32, y = w346 + (1 : Int32) := ⟨_, rfl⟩
                              have hf := nmeU ey358 hf
                              refine lv_iinc (v := y358) (lv' := [(10, .int y358), (0, .ref q_t), (2, .int v2), (3, .int v3), (4, .int v4), (5, .int v5), (6, .int x17), (7, .long w218), (9, .int w219)]) hx hb dX8_draughts_253 hl (k := 8) rfl (by rw [ey358]; rfl) (by decide) rfl (fun ls hl => ?_)
                              refine lv_goto (tgt := 232) hx hb dX8_draughts_256 (by decide) ?_
                              exact ih _ _ hf H locs hP hD hS ls (lv_sub hl [1, 2, 3, 4, 5, 6, 7, 8, 0] rfl)
                        exact L350 fu (0 : Int32) w220 h352 H locs hP hD hS ls (lv_sub hl [1, 2, 3, 4, 5, 6, 7, 8, 0] rfl)
                      have L304 : ∀ (k : Nat) (w300 : Int32) (w301 : Nat → Int64), fX8_draughts_159 x17 w220 v3 k w300 w301 = some u302 → ∀ (H : Heap) (locs : List Loc), va_P D vwCl [(q_t, .inr (8, [.int t_there, .ref q_t_book, .ref q_t_now, .ref q_t_does, .ref q_t_bad, .ref q_t_likes, .int t_sights, .ref q_t_sight, .int t_signs, .ref q_t_pad, .ref q_t_then, .int t_worseAt, .int t_worseWho, .int t_hours, .ref q_t_ahead, .int t_reason, .int t_acts, .ref q_t_most, .ref q_t_worth, .ref q_t_damp, .ref q_t_next, .ref q_t_image, .ref q_t_isKept])), (q_t_book, .inl (G 0, 26, .inl t_book)), (q_t_does, .inl (G 0, 12, .inl t_does)), (q_t_damp, .inl (G 1, 21, .inr (.inl w220))), (q_t_next, .inl (G 1, 21, .inr (.inl w301)))] H → va_D A [(q_t, .inr (8, [.int t_there, .ref q_t_book, .ref q_t_now, .ref q_t_does, .ref q_t_bad, .ref q_t_likes, .int t_sights, .ref q_t_sight, .int t_signs, .ref q_t_pad, .ref q_t_then, .int t_worseAt, .int t_worseWho, .int t_hours, .ref q_t_ahead, .int t_reason, .int t_acts, .ref q_t_most, .ref q_t_worth, .ref q_t_damp, .ref q_t_next, .ref q_t_image, .ref q_t_isKept])), (q_t_book, .inl (G 0, 26, .inl t_book)), (q_t_does, .inl (G 0, 12, .inl t_does)), (q_t_damp, .inl (G 1, 21, .inr (.inl w220))), (q_t_next, .inl (G 1, 21, .inr (.inl w301)))] → va_S A s.heap H locs → ∀ ls : Array Slot, lv_has ls 12 [(0, .ref q_t), (2, .int v2), (3, .int v3), (4, .int v4), (5, .int v5), (6, .int x17), (7, .long w218), (9, .int w219), (10, .int w300)] → W p l e (kR 3 103) s m args below meth c H locs 0 0 Q (F0 m 159 ls []) := by
                        intro k; induction k with
                        | zero => intro w300 w301 hf; exact nosome hf
                        | succ k ih =>
                          intro w300 w301 hf; rw [fX8_draughts_159] at hf
                          intro H locs hP hD hS ls hl
                          refine lv_iload hx hb dX8_draughts_159 (lv_at hl 8 rfl) ?_
                          refine lv_bipush (v := (21 : Int32)) hx hb dX8_draughts_161 (by decide) ?_
                          refine lv_icmp_ge (tgt := 229) hx hb dX8_draughts_163 (by decide) (fun c309 => ?_) (fun c309 => ?_)
                          · have hf := ifp c309 hf
                            exact E303 _ hf H locs hP hD hS ls (lv_sub hl [0, 1, 2, 3, 4, 5, 6, 7] rfl)
                          · have hf := ifn c309 hf
                            refine lv_aload_n hx hb dX8_draughts_166 rfl (lv_at hl 0 rfl) ?_
                            refine va_get (D := D) (ci := 8) (v := .ref q_t_next) (C := RX8) (T := TX8) (N := 23) hx hb hts inX8 hown hK hP 0 rfl rfl 20 (by decide) (hts _ lfX8_47) (fun _ h9 => h9) rfl dX8_draughts_167 ?_
                            refine lv_iload hx hb dX8_draughts_170 (lv_at hl 8 rfl) ?_
                            refine lv_iload hx hb dX8_draughts_172 (lv_at hl 5 rfl) ?_
                            refine lv_iadd hx hb dX8_draughts_174 ?_
                            obtain ⟨r310, h311, hf⟩ := bd1E hf
                            refine kO_stat hx hb hml hown hts hK hn hP (kX8_clip l D G (w300 + x17) h311) csX8_87 ⟨Nat.le_of_ble_eq_true rfl, Nat.le_of_ble_eq_true rfl⟩ [] rfl rfl hl.1 rfl (Nat.le_of_ble_eq_true rfl) ⟨Nat.zero_le _, Nat.zero_le _⟩ dX8_draughts_175 ?_
                            refine lv_dup2_11 hx hb dX8_draughts_178 rfl rfl ?_
                            obtain ⟨x312, ex312, ix312, hf⟩ := ldLE hf
                            refine k_lald hx hb hK hP 4 1 rfl rfl ix312 ex312 dX8_draughts_179 ?_
                            refine lv_aload_n hx hb dX8_draughts_180 rfl (lv_at hl 0 rfl) ?_
                            refine va_get (D := D) (ci := 8) (v := .ref q_t_damp) (C := RX8) (T := TX8) (N := 23) hx hb hts inX8 hown hK hP 0 rfl rfl 19 (by decide) (hts _ lfX8_44) (fun _ h9 => h9) rfl dX8_draughts_181 ?_
                            refine lv_iload hx hb dX8_draughts_184 (lv_at hl 8 rfl) ?_
                            obtain ⟨x313, ex313, ix313, hf⟩ := ldLE hf
                            refine k_lald hx hb hK hP 3 1 rfl rfl ix313 ex313 dX8_draughts_186 ?_
                            refine lv_bipush (v := (10 : Int32)) hx hb dX8_draughts_187 (by decide) ?_
                            refine lv_iload_n hx hb dX8_draughts_189 rfl (lv_at hl 2 rfl) ?_
                            refine lv_isub hx hb dX8_draughts_190 ?_
                            refine lv_i2l (v := (((10 : Int32) - v3)).toInt64) hx hb dX8_draughts_191 rfl ?_
                            refine lv_lmul hx hb dX8_draughts_192 ?_
                            refine lv_ladd hx hb dX8_draughts_193 ?_
                            obtain ⟨g314, eg314, ig314, hf⟩ := stLE hf
                            refine k_last hx hb hK hP hD hS 4 1 rfl rfl ig314 eg314 dX8_draughts_194 (fun H locs hP hD hS => ?_)
                            have hP : va_P D vwCl [(q_t, .inr (8, [.int t_there, .ref q_t_book, .ref q_t_now, .ref q_t_does, .ref q_t_bad, .ref q_t_likes, .int t_sights, .ref q_t_sight, .int t_signs, .ref q_t_pad, .ref q_t_then, .int t_worseAt, .int t_worseWho, .int t_hours, .ref q_t_ahead, .int t_reason, .int t_acts, .ref q_t_most, .ref q_t_worth, .ref q_t_damp, .ref q_t_next, .ref q_t_image, .ref q_t_isKept])), (q_t_book, .inl (G 0, 26, .inl t_book)), (q_t_does, .inl (G 0, 12, .inl t_does)), (q_t_damp, .inl (G 1, 21, .inr (.inl w220))), (q_t_next, .inl (G 1, 21, .inr (.inl g314)))] H := hP
                            have hD : va_D A [(q_t, .inr (8, [.int t_there, .ref q_t_book, .ref q_t_now, .ref q_t_does, .ref q_t_bad, .ref q_t_likes, .int t_sights, .ref q_t_sight, .int t_signs, .ref q_t_pad, .ref q_t_then, .int t_worseAt, .int t_worseWho, .int t_hours, .ref q_t_ahead, .int t_reason, .int t_acts, .ref q_t_most, .ref q_t_worth, .ref q_t_damp, .ref q_t_next, .ref q_t_image, .ref q_t_isKept])), (q_t_book, .inl (G 0, 26, .inl t_book)), (q_t_does, .inl (G 0, 12, .inl t_does)), (q_t_damp, .inl (G 1, 21, .inr (.inl w220))), (q_t_next, .inl (G 1, 21, .inr (.inl g314)))] := hD
                            refine lv_aload_n hx hb dX8_draughts_195 rfl (lv_at hl 0 rfl) ?_
                            refine va_get (D := D) (ci := 8) (v := .ref q_t_next) (C := RX8) (T := TX8) (N := 23) hx hb hts inX8 hown hK hP 0 rfl rfl 20 (by decide) (hts _ lfX8_47) (fun _ h9 => h9) rfl dX8_draughts_196 ?_
                            refine lv_iload hx hb dX8_draughts_199 (lv_at hl 8 rfl) ?_
                            refine lv_iload hx hb dX8_draughts_201 (lv_at hl 5 rfl) ?_
                            refine lv_iadd hx hb dX8_draughts_203 ?_
                            refine lv_iconst (v := (1 : Int32)) hx hb dX8_draughts_204 (by decide) ?_
                            refine lv_iadd hx hb dX8_draughts_205 ?_
                            obtain ⟨r315, h316, hf⟩ := bd1E hf
                            refine kO_stat hx hb hml hown hts hK hn hP (kX8_clip l D G ((w300 + x17) + (1 : Int32)) h316) csX8_87 ⟨Nat.le_of_ble_eq_true rfl, Nat.le_of_ble_eq_true rfl⟩ [] rfl rfl hl.1 rfl (Nat.le_of_ble_eq_true rfl) ⟨Nat.zero_le _, Nat.zero_le _⟩ dX8_draughts_206 ?_
                            refine lv_dup2_11 hx hb dX8_draughts_209 rfl rfl ?_
                            obtain ⟨x317, ex317, ix317, hf⟩ := ldLE hf
                            refine k_lald hx hb hK hP 4 1 rfl rfl ix317 ex317 dX8_draughts_210 ?_
                            refine lv_aload_n hx hb dX8_draughts_211 rfl (lv_at hl 0 rfl) ?_
                            refine va_get (D := D) (ci := 8) (v := .ref q_t_damp) (C := RX8) (T := TX8) (N := 23) hx hb hts inX8 hown hK hP 0 rfl rfl 19 (by decide) (hts _ lfX8_44) (fun _ h9 => h9) rfl dX8_draughts_212 ?_
                            refine lv_iload hx hb dX8_draughts_215 (lv_at hl 8 rfl) ?_
                            obtain ⟨x318, ex318, ix318, hf⟩ := ldLE hf
                            refine k_lald hx hb hK hP 3 1 rfl rfl ix318 ex318 dX8_draughts_217 ?_
                            refine lv_iload_n hx hb dX8_draughts_218 rfl (lv_at hl 2 rfl) ?_
                            refine lv_i2l (v := (v3).toInt64) hx hb dX8_draughts_219 rfl ?_
                            refine lv_lmul hx hb dX8_draughts_220 ?_
                            refine lv_ladd hx hb dX8_draughts_221 ?_
                            obtain ⟨g319, eg319, ig319, hf⟩ := stLE hf
                            refine k_last hx hb hK hP hD hS 4 1 rfl rfl ig319 eg319 dX8_draughts_222 (fun H locs hP hD hS => ?_)
                            have hP : va_P D vwCl [(q_t, .inr (8, [.int t_there, .ref q_t_book, .ref q_t_now, .ref q_t_does, .ref q_t_bad, .ref q_t_likes, .int t_sights, .ref q_t_sight, .int t_signs, .ref q_t_pad, .ref q_t_then, .int t_worseAt, .int t_worseWho, .int t_hours, .ref q_t_ahead, .int t_reason, .int t_acts, .ref q_t_most, .ref q_t_worth, .ref q_t_damp, .ref q_t_next, .ref q_t_image, .ref q_t_isKept])), (q_t_book, .inl (G 0, 26, .inl t_book)), (q_t_does, .inl (G 0, 12, .inl t_does)), (q_t_damp, .inl (G 1, 21, .inr (.inl w220))), (q_t_next, .inl (G 1, 21, .inr (.inl g319)))] H := hP
                            have hD : va_D A [(q_t, .inr (8, [.int t_there, .ref q_t_book, .ref q_t_now, .ref q_t_does, .ref q_t_bad, .ref q_t_likes, .int t_sights, .ref q_t_sight, .int t_signs, .ref q_t_pad, .ref q_t_then, .int t_worseAt, .int t_worseWho, .int t_hours, .ref q_t_ahead, .int t_reason, .int t_acts, .ref q_t_most, .ref q_t_worth, .ref q_t_damp, .ref q_t_next, .ref q_t_image, .ref q_t_isKept])), (q_t_book, .inl (G 0, 26, .inl t_book)), (q_t_does, .inl (G 0, 12, .inl t_does)), (q_t_damp, .inl (G 1, 21, .inr (.inl w220))), (q_t_next, .inl (G 1, 21, .inr (.inl g319)))] := hD
                            obtain ⟨y320, ey320⟩ : ∃ y : Int32, y = w300 + (1 : Int32) := ⟨_, rfl⟩
                            have hf := nmeU ey320 hf
                            refine lv_iinc (v := y320) (lv' := [(10, .int y320), (0, .ref q_t), (2, .int v2), (3, .int v3), (4, .int v4), (5, .int v5), (6, .int x17), (7, .long w218), (9, .int w219)]) hx hb dX8_draughts_223 hl (k := 8) rfl (by rw [ey320]; rfl) (by decide) rfl (fun ls hl => ?_)
                            refine lv_goto (tgt := 159) hx hb dX8_draughts_226 (by decide) ?_
                            exact ih _ _ hf H locs hP hD hS ls (lv_sub hl [1, 2, 3, 4, 5, 6, 7, 8, 0] rfl)
                      exact L304 fu (0 : Int32) z267 h306 H locs hP hD hS ls (lv_sub hl [1, 2, 3, 4, 5, 6, 7, 8, 0] rfl)
                    have L259 : ∀ (k : Nat) (w255 : Int32) (w256 : Nat → Int64), fX8_draughts_135 k w255 w256 = some u257 → ∀ (H : Heap) (locs : List Loc), va_P D vwCl [(q_t, .inr (8, [.int t_there, .ref q_t_book, .ref q_t_now, .ref q_t_does, .ref q_t_bad, .ref q_t_likes, .int t_sights, .ref q_t_sight, .int t_signs, .ref q_t_pad, .ref q_t_then, .int t_worseAt, .int t_worseWho, .int t_hours, .ref q_t_ahead, .int t_reason, .int t_acts, .ref q_t_most, .ref q_t_worth, .ref q_t_damp, .ref q_t_next, .ref q_t_image, .ref q_t_isKept])), (q_t_book, .inl (G 0, 26, .inl t_book)), (q_t_does, .inl (G 0, 12, .inl t_does)), (q_t_damp, .inl (G 1, 21, .inr (.inl w220))), (q_t_next, .inl (G 1, 21, .inr (.inl w256)))] H → va_D A [(q_t, .inr (8, [.int t_there, .ref q_t_book, .ref q_t_now, .ref q_t_does, .ref q_t_bad, .ref q_t_likes, .int t_sights, .ref q_t_sight, .int t_signs, .ref q_t_pad, .ref q_t_then, .int t_worseAt, .int t_worseWho, .int t_hours, .ref q_t_ahead, .int t_reason, .int t_acts, .ref q_t_most, .ref q_t_worth, .ref q_t_damp, .ref q_t_next, .ref q_t_image, .ref q_t_isKept])), (q_t_book, .inl (G 0, 26, .inl t_book)), (q_t_does, .inl (G 0, 12, .inl t_does)), (q_t_damp, .inl (G 1, 21, .inr (.inl w220))), (q_t_next, .inl (G 1, 21, .inr (.inl w256)))] → va_S A s.heap H locs → ∀ ls : Array Slot, lv_has ls 12 [(0, .ref q_t), (2, .int v2), (3, .int v3), (4, .int v4), (5, .int v5), (6, .int x17), (7, .long w218), (9, .int w219), (10, .int w255)] → W p l e (kR 3 103) s m args below meth c H locs 0 0 Q (F0 m 135 ls []) := by
                      intro k; induction k with
                      | zero => intro w255 w256 hf; exact nosome hf
                      | succ k ih =>
                        intro w255 w256 hf; rw [fX8_draughts_135] at hf
                        intro H locs hP hD hS ls hl
                        refine lv_iload hx hb dX8_draughts_135 (lv_at hl 8 rfl) ?_
                        refine lv_bipush (v := (21 : Int32)) hx hb dX8_draughts_137 (by decide) ?_
                        refine lv_icmp_ge (tgt := 156) hx hb dX8_draughts_139 (by decide) (fun c264 => ?_) (fun c264 => ?_)
                        · have hf := ifp c264 hf
                          exact E258 _ hf H locs hP hD hS ls (lv_sub hl [0, 1, 2, 3, 4, 5, 6, 7] rfl)
                        · have hf := ifn c264 hf
                          refine lv_aload_n hx hb dX8_draughts_142 rfl (lv_at hl 0 rfl) ?_
                          refine va_get (D := D) (ci := 8) (v := .ref q_t_next) (C := RX8) (T := TX8) (N := 23) hx hb hts inX8 hown hK hP 0 rfl rfl 20 (by decide) (hts _ lfX8_47) (fun _ h9 => h9) rfl dX8_draughts_143 ?_
                          refine lv_iload hx hb dX8_draughts_146 (lv_at hl 8 rfl) ?_
                          refine lv_lconst (v := (0 : Int64)) hx hb dX8_draughts_148 (by decide) ?_
                          obtain ⟨g265, eg265, ig265, hf⟩ := stLE hf
                          refine k_last hx hb hK hP hD hS 4 1 rfl rfl ig265 eg265 dX8_draughts_149 (fun H locs hP hD hS => ?_)
                          have hP : va_P D vwCl [(q_t, .inr (8, [.int t_there, .ref q_t_book, .ref q_t_now, .ref q_t_does, .ref q_t_bad, .ref q_t_likes, .int t_sights, .ref q_t_sight, .int t_signs, .ref q_t_pad, .ref q_t_then, .int t_worseAt, .int t_worseWho, .int t_hours, .ref q_t_ahead, .int t_reason, .int t_acts, .ref q_t_most, .ref q_t_worth, .ref q_t_damp, .ref q_t_next, .ref q_t_image, .ref q_t_isKept])), (q_t_book, .inl (G 0, 26, .inl t_book)), (q_t_does, .inl (G 0, 12, .inl t_does)), (q_t_damp, .inl (G 1, 21, .inr (.inl w220))), (q_t_next, .inl (G 1, 21, .inr (.inl g265)))] H := hP
                          have hD : va_D A [(q_t, .inr (8, [.int t_there, .ref q_t_book, .ref q_t_now, .ref q_t_does, .ref q_t_bad, .ref q_t_likes, .int t_sights, .ref q_t_sight, .int t_signs, .ref q_t_pad, .ref q_t_then, .int t_worseAt, .int t_worseWho, .int t_hours, .ref q_t_ahead, .int t_reason, .int t_acts, .ref q_t_most, .ref q_t_worth, .ref q_t_damp, .ref q_t_next, .ref q_t_image, .ref q_t_isKept])), (q_t_book, .inl (G 0, 26, .inl t_book)), (q_t_does, .inl (G 0, 12, .inl t_does)), (q_t_damp, .inl (G 1, 21, .inr (.inl w220))), (q_t_next, .inl (G 1, 21, .inr (.inl g265)))] := hD
                          obtain ⟨y266, ey266⟩ : ∃ y : Int32, y = w255 + (1 : Int32) := ⟨_, rfl⟩
                          have hf := nmeU ey266 hf
                          refine lv_iinc (v := y266) (lv' := [(10, .int y266), (0, .ref q_t), (2, .int v2), (3, .int v3), (4, .int v4), (5, .int v5), (6, .int x17), (7, .long w218), (9, .int w219)]) hx hb dX8_draughts_150 hl (k := 8) rfl (by rw [ey266]; rfl) (by decide) rfl (fun ls hl => ?_)
                          refine lv_goto (tgt := 135) hx hb dX8_draughts_153 (by decide) ?_
                          exact ih _ _ hf H locs hP hD hS ls (lv_sub hl [1, 2, 3, 4, 5, 6, 7, 8, 0] rfl)
                    exact L259 fu (0 : Int32) w221 h261 H locs hP hD hS ls (lv_sub hl [1, 2, 3, 4, 5, 6, 7, 8, 0] rfl)
              exact L226 fu (1 : Int64) (0 : Int32) z67 t_next h228 H locs hP hD hS ls (lv_sub hl [1, 2, 3, 4, 5, 6, 7, 0] rfl)
            have L52 : ∀ (k : Nat) (w48 : Int32) (w49 : Nat → Int64), fX8_draughts_83 t_book v1 k w48 w49 = some u50 → ∀ (H : Heap) (locs : List Loc), va_P D vwCl [(q_t, .inr (8, [.int t_there, .ref q_t_book, .ref q_t_now, .ref q_t_does, .ref q_t_bad, .ref q_t_likes, .int t_sights, .ref q_t_sight, .int t_signs, .ref q_t_pad, .ref q_t_then, .int t_worseAt, .int t_worseWho, .int t_hours, .ref q_t_ahead, .int t_reason, .int t_acts, .ref q_t_most, .ref q_t_worth, .ref q_t_damp, .ref q_t_next, .ref q_t_image, .ref q_t_isKept])), (q_t_book, .inl (G 0, 26, .inl t_book)), (q_t_does, .inl (G 0, 12, .inl t_does)), (q_t_damp, .inl (G 1, 21, .inr (.inl w49))), (q_t_next, .inl (G 1, 21, .inr (.inl t_next)))] H → va_D A [(q_t, .inr (8, [.int t_there, .ref q_t_book, .ref q_t_now, .ref q_t_does, .ref q_t_bad, .ref q_t_likes, .int t_sights, .ref q_t_sight, .int t_signs, .ref q_t_pad, .ref q_t_then, .int t_worseAt, .int t_worseWho, .int t_hours, .ref q_t_ahead, .int t_reason, .int t_acts, .ref q_t_most, .ref q_t_worth, .ref q_t_damp, .ref q_t_next, .ref q_t_image, .ref q_t_isKept])), (q_t_book, .inl (G 0, 26, .inl t_book)), (q_t_does, .inl (G 0, 12, .inl t_does)), (q_t_damp, .inl (G 1, 21, .inr (.inl w49))), (q_t_next, .inl (G 1, 21, .inr (.inl t_next)))] → va_S A s.heap H locs → ∀ ls : Array Slot, lv_has ls 12 [(0, .ref q_t), (1, .int v1), (2, .int v2), (3, .int v3), (4, .int v4), (5, .int v5), (6, .int x17), (7, .long (1 : Int64)), (9, .int w48)] → W p l e (kR 3 103) s m args below meth c H locs 0 0 Q (F0 m 83 ls []) := by
              intro k; induction k with
              | zero => intro w48 w49 hf; exact nosome hf
              | succ k ih =>
                intro w48 w49 hf; rw [fX8_draughts_83] at hf
                intro H locs hP hD hS ls hl
                refine lv_iload hx hb dX8_draughts_83 (lv_at hl 8 rfl) ?_
                refine lv_bipush (v := (21 : Int32)) hx hb dX8_draughts_85 (by decide) ?_
                refine lv_icmp_ge (tgt := 123) hx hb dX8_draughts_87 (by decide) (fun c57 => ?_) (fun c57 => ?_)
                · have hf := ifp c57 hf
                  exact E51 _ hf H locs hP hD hS ls (lv_sub hl [0, 2, 3, 4, 5, 6, 7] rfl)
                · have hf := ifn c57 hf
                  refine lv_aload_n hx hb dX8_draughts_90 rfl (lv_at hl 0 rfl) ?_
                  refine va_get (D := D) (ci := 8) (v := .ref q_t_damp) (C := RX8) (T := TX8) (N := 23) hx hb hts inX8 hown hK hP 0 rfl rfl 19 (by decide) (hts _ lfX8_44) (fun _ h9 => h9) rfl dX8_draughts_91 ?_
                  refine lv_iload hx hb dX8_draughts_94 (lv_at hl 8 rfl) ?_
                  refine lv_iload hx hb dX8_draughts_96 (lv_at hl 8 rfl) ?_
                  refine lv_aload_n hx hb dX8_draughts_98 rfl (lv_at hl 0 rfl) ?_
                  refine va_get (D := D) (ci := 8) (v := .ref q_t_book) (C := RX8) (T := TX8) (N := 23) hx hb hts inX8 hown hK hP 0 rfl rfl 1 (by decide) (hts _ lfX8_7) (fun _ h9 => h9) rfl dX8_draughts_99 ?_
                  refine lv_iconst (v := (3 : Int32)) hx hb dX8_draughts_102 (by decide) ?_
                  refine lv_iload_n hx hb dX8_draughts_103 rfl (lv_at hl 1 rfl) ?_
                  refine lv_imul hx hb dX8_draughts_104 ?_
                  refine lv_iconst (v := (2 : Int32)) hx hb dX8_draughts_105 (by decide) ?_
                  refine lv_iadd hx hb dX8_draughts_106 ?_
                  obtain ⟨x58, ex58, ix58, hf⟩ := ldIE hf
                  refine k_iald hx hb hK hP 1 0 rfl rfl ix58 ex58 dX8_draughts_107 ?_
                  obtain ⟨j60, h66, hf⟩ := bd1E hf
                  have E64 : ∀ (z61 : Int64), some z61 = some j60 → ∀ (H : Heap) (locs : List Loc), va_P D vwCl [(q_t, .inr (8, [.int t_there, .ref q_t_book, .ref q_t_now, .ref q_t_does, .ref q_t_bad, .ref q_t_likes, .int t_sights, .ref q_t_sight, .int t_signs, .ref q_t_pad, .ref q_t_then, .int t_worseAt, .int t_worseWho, .int t_hours, .ref q_t_ahead, .int t_reason, .int t_acts, .ref q_t_most, .ref q_t_worth, .ref q_t_damp, .ref q_t_next, .ref q_t_image, .ref q_t_isKept])), (q_t_book, .inl (G 0, 26, .inl t_book)), (q_t_does, .inl (G 0, 12, .inl t_does)), (q_t_damp, .inl (G 1, 21, .inr (.inl w49))), (q_t_next, .inl (G 1, 21, .inr (.inl t_next)))] H → va_D A [(q_t, .inr (8, [.int t_there, .ref q_t_book, .ref q_t_now, .ref q_t_does, .ref q_t_bad, .ref q_t_likes, .int t_sights, .ref q_t_sight, .int t_signs, .ref q_t_pad, .ref q_t_then, .int t_worseAt, .int t_worseWho, .int t_hours, .ref q_t_ahead, .int t_reason, .int t_acts, .ref q_t_most, .ref q_t_worth, .ref q_t_damp, .ref q_t_next, .ref q_t_image, .ref q_t_isKept])), (q_t_book, .inl (G 0, 26, .inl t_book)), (q_t_does, .inl (G 0, 12, .inl t_does)), (q_t_damp, .inl (G 1, 21, .inr (.inl w49))), (q_t_next, .inl (G 1, 21, .inr (.inl t_next)))] → va_S A s.heap H locs → ∀ ls : Array Slot, lv_has ls 12 [(0, .ref q_t), (1, .int v1), (2, .int v2), (3, .int v3), (4, .int v4), (5, .int v5), (6, .int x17), (7, .long (1 : Int64)), (9, .int w48)] → W p l e (kR 3 103) s m args below meth c H locs 0 0 Q (F0 m 116 ls [.long z61, .int w48, .ref q_t_damp]) := by
                    intro z61 hy; obtain rfl := sm1 hy
                    intro H locs hP hD hS ls hl
                    obtain ⟨g62, eg62, ig62, hf⟩ := stLE hf
                    refine k_last hx hb hK hP hD hS 3 1 rfl rfl ig62 eg62 dX8_draughts_116 (fun H locs hP hD hS => ?_)
                    have hP : va_P D vwCl [(q_t, .inr (8, [.int t_there, .ref q_t_book, .ref q_t_now, .ref q_t_does, .ref q_t_bad, .ref q_t_likes, .int t_sights, .ref q_t_sight, .int t_signs, .ref q_t_pad, .ref q_t_then, .int t_worseAt, .int t_worseWho, .int t_hours, .ref q_t_ahead, .int t_reason, .int t_acts, .ref q_t_most, .ref q_t_worth, .ref q_t_damp, .ref q_t_next, .ref q_t_image, .ref q_t_isKept])), (q_t_book, .inl (G 0, 26, .inl t_book)), (q_t_does, .inl (G 0, 12, .inl t_does)), (q_t_damp, .inl (G 1, 21, .inr (.inl g62))), (q_t_next, .inl (G 1, 21, .inr (.inl t_next)))] H := hP
                    have hD : va_D A [(q_t, .inr (8, [.int t_there, .ref q_t_book, .ref q_t_now, .ref q_t_does, .ref q_t_bad, .ref q_t_likes, .int t_sights, .ref q_t_sight, .int t_signs, .ref q_t_pad, .ref q_t_then, .int t_worseAt, .int t_worseWho, .int t_hours, .ref q_t_ahead, .int t_reason, .int t_acts, .ref q_t_most, .ref q_t_worth, .ref q_t_damp, .ref q_t_next, .ref q_t_image, .ref q_t_isKept])), (q_t_book, .inl (G 0, 26, .inl t_book)), (q_t_does, .inl (G 0, 12, .inl t_does)), (q_t_damp, .inl (G 1, 21, .inr (.inl g62))), (q_t_next, .inl (G 1, 21, .inr (.inl t_next)))] := hD
                    obtain ⟨y63, ey63⟩ : ∃ y : Int32, y = w48 + (1 : Int32) := ⟨_, rfl⟩
                    have hf := nmeU ey63 hf
                    refine lv_iinc (v := y63) (lv' := [(9, .int y63), (0, .ref q_t), (1, .int v1), (2, .int v2), (3, .int v3), (4, .int v4), (5, .int v5), (6, .int x17), (7, .long (1 : Int64))]) hx hb dX8_draughts_117 hl (k := 8) rfl (by rw [ey63]; rfl) (by decide) rfl (fun ls hl => ?_)
                    refine lv_goto (tgt := 83) hx hb dX8_draughts_120 (by decide) ?_
                    exact ih _ _ hf H locs hP hD hS ls (lv_sub hl [1, 2, 3, 4, 5, 6, 7, 8, 0] rfl)
                  have hf := h66
                  refine lv_icmp_ne (tgt := 115) hx hb dX8_draughts_108 (by decide) (fun c65 => ?_) (fun c65 => ?_)
                  · have hf := ifn c65 hf
                    refine lv_lconst (v := (0 : Int64)) hx hb dX8_draughts_115 (by decide) ?_
                    exact E64 _ hf H locs hP hD hS ls (lv_sub hl [0, 1, 2, 3, 4, 5, 6, 7, 8] rfl)
                  · have hf := ifp c65 hf
                    refine lv_lconst (v := (1 : Int64)) hx hb dX8_draughts_111 (by decide) ?_
                    refine lv_goto (tgt := 116) hx hb dX8_draughts_112 (by decide) ?_
                    exact E64 _ hf H locs hP hD hS ls (lv_sub hl [0, 1, 2, 3, 4, 5, 6, 7, 8] rfl)
            exact L52 fu (0 : Int32) t_damp h54 H locs hP hD hS ls (lv_sub hl [3, 4, 5, 6, 7, 8, 2, 1, 0] rfl)
          · have hf := ifp c15 hf
            refine lv_ldc2 (v := (-1000000000000000002 : Int64)) hx hb hown (hts _ lcX8_156) dX8_draughts_53 ?_
            exact RT _ _ _ hf _ _ _ H locs dX8_draughts_56 (rkL _) hP hD hS
  · have hf := ifp c3 hf
    refine lv_ldc2 (v := (-1000000000000000001 : Int64)) hx hb hown (hts _ lcX8_164) dX8_draughts_8 ?_
    exact RT _ _ _ hf _ _ _ H locs dX8_draughts_11 (rkL _) hP hD hS
set_option maxHeartbeats 4000000 in
set_option maxRecDepth 100000 in
theorem kX8_fault (l : Launch) (D : va_G) (G : Nat → ClassId) (fu : Nat) (q_t q_t_book q_t_now q_t_does q_t_bad q_t_likes q_t_sight q_t_pad q_t_then q_t_ahead q_t_most q_t_worth q_t_damp q_t_next q_t_image q_t_isKept : Nat) (t_there : Int32) (t_sights : Int32) (t_signs : Int32) (t_worseAt : Int32) (t_worseWho : Int32) (t_hours : Int32) (t_reason : Int32) (t_acts : Int32) (t_pad : Nat → Int32) {r : Int32} (hf : fX8_fault fu t_signs t_pad = some r) : rO l D G yX8_fault cX8_fault 1 (some .int) 3 106 [.ref q_t] [(q_t, .inr (8, [.int t_there, .ref q_t_book, .ref q_t_now, .ref q_t_does, .ref q_t_bad, .ref q_t_likes, .int t_sights, .ref q_t_sight, .int t_signs, .ref q_t_pad, .ref q_t_then, .int t_worseAt, .int t_worseWho, .int t_hours, .ref q_t_ahead, .int t_reason, .int t_acts, .ref q_t_most, .ref q_t_worth, .ref q_t_damp, .ref q_t_next, .ref q_t_image, .ref q_t_isKept])), (q_t_pad, .inl (G 0, 60, .inl t_pad))] (some (.int r)) := by
  refine rO_of (by decide) (Nat.le_of_ble_eq_true rfl) ?_
  intro p e s m args below meth c Q hx hb hml hown hts hK hn hP RET ls hl
  have RT : ∀ (a0_ : Int32), some a0_ = some r → ∀ (pc : Nat) (ls : Array Slot) (ins : Instr), decode cX8_fault pc = .ok (ins, 1) → rk (some .int) (some (.int a0_)) ins → W p l e (kR 3 106) s m args below meth c s.heap [] 0 0 Q (F0 m pc ls [.int a0_]) := by
    intro a0_ hy; obtain rfl := sm1 hy
    exact RET
  have hown : s.vm.findClass RX8 = some m.cls := hown
  have hl : lv_has ls 1 [(0, .ref q_t)] := hl
  clear RET
  rw [fX8_fault] at hf
  refine lv_aload_n hx hb dX8_fault_0 rfl (lv_at hl 0 rfl) ?_
  obtain ⟨r1, h2, hf⟩ := bd1E hf
  refine kO_virt hx hb hml hown hts hK hn hP (kX8_faultOf l D G fu q_t q_t_book q_t_now q_t_does q_t_bad q_t_likes q_t_sight q_t_pad q_t_then q_t_ahead q_t_most q_t_worth q_t_damp q_t_next q_t_image q_t_isKept t_there t_sights t_signs t_worseAt t_worseWho t_hours t_reason t_acts t_pad h2) cvX8_83 ⟨Nat.le_of_ble_eq_true rfl, Nat.le_of_ble_eq_true rfl⟩ [0, 1] rfl 0 rfl rfl rfl hl.1 rfl (Nat.le_of_ble_eq_true rfl) ⟨Nat.zero_le _, Nat.zero_le _⟩ dX8_fault_1 ?_
  exact RT _ hf _ _ _ dX8_fault_4 (rkI _)
set_option maxHeartbeats 4000000 in
set_option maxRecDepth 100000 in
theorem kX8_forget (l : Launch) (D : va_G) (G : Nat → ClassId) (q_t q_t_book q_t_now q_t_does q_t_bad q_t_likes q_t_sight q_t_pad q_t_then q_t_ahead q_t_most q_t_worth q_t_damp q_t_next q_t_image q_t_isKept : Nat) (t_there : Int32) (t_sights : Int32) (t_signs : Int32) (t_worseAt : Int32) (t_worseWho : Int32) (t_hours : Int32) (t_reason : Int32) (t_acts : Int32) {r : Int32} {o_t_sights : Int32} (hf : fX8_forget t_sights = some (r, o_t_sights)) : rW l D G yX8_forget cX8_forget 2 (some .int) 1 60 [.ref q_t] [(q_t, .inr (8, [.int t_there, .ref q_t_book, .ref q_t_now, .ref q_t_does, .ref q_t_bad, .ref q_t_likes, .int t_sights, .ref q_t_sight, .int t_signs, .ref q_t_pad, .ref q_t_then, .int t_worseAt, .int t_worseWho, .int t_hours, .ref q_t_ahead, .int t_reason, .int t_acts, .ref q_t_most, .ref q_t_worth, .ref q_t_damp, .ref q_t_next, .ref q_t_image, .ref q_t_isKept]))] [(q_t, .inr (8, [.int t_there, .ref q_t_book, .ref q_t_now, .ref q_t_does, .ref q_t_bad, .ref q_t_likes, .int o_t_sights, .ref q_t_sight, .int t_signs, .ref q_t_pad, .ref q_t_then, .int t_worseAt, .int t_worseWho, .int t_hours, .ref q_t_ahead, .int t_reason, .int t_acts, .ref q_t_most, .ref q_t_worth, .ref q_t_damp, .ref q_t_next, .ref q_t_image, .ref q_t_isKept]))] (some (.int r)) := by
  refine rW_of (by decide) (Nat.le_of_ble_eq_true rfl) ?_
  intro p e s m args below meth c Q A hx hb hml hown hts hK hn hA RET H locs hP hD hS ls hl
  have RT : ∀ (a0_ : Int32) (a1_ : Int32), some (a0_, a1_) = some (r, o_t_sights) → ∀ (pc : Nat) (ls : Array Slot) (ins : Instr) (H : Heap) (locs : List Loc), decode cX8_forget pc = .ok (ins, 1) → rk (some .int) (some (.int a0_)) ins → va_P D vwCl [(q_t, .inr (8, [.int t_there, .ref q_t_book, .ref q_t_now, .ref q_t_does, .ref q_t_bad, .ref q_t_likes, .int a1_, .ref q_t_sight, .int t_signs, .ref q_t_pad, .ref q_t_then, .int t_worseAt, .int t_worseWho, .int t_hours, .ref q_t_ahead, .int t_reason, .int t_acts, .ref q_t_most, .ref q_t_worth, .ref q_t_damp, .ref q_t_next, .ref q_t_image, .ref q_t_isKept]))] H → va_D A [(q_t, .inr (8, [.int t_there, .ref q_t_book, .ref q_t_now, .ref q_t_does, .ref q_t_bad, .ref q_t_likes, .int a1_, .ref q_t_sight, .int t_signs, .ref q_t_pad, .ref q_t_then, .int t_worseAt, .int t_worseWho, .int t_hours, .ref q_t_ahead, .int t_reason, .int t_acts, .ref q_t_most, .ref q_t_worth, .ref q_t_damp, .ref q_t_next, .ref q_t_image, .ref q_t_isKept]))] → va_S A s.heap H locs → W p l e (kR 1 60) s m args below meth c H locs 0 0 Q (F0 m pc ls [.int a0_]) := by
    intro a0_ a1_ hy; obtain ⟨rfl, rfl⟩ := sm2 hy
    exact RET
  have hown : s.vm.findClass RX8 = some m.cls := hown
  have hl : lv_has ls 2 [(0, .ref q_t)] := hl
  clear RET
  rw [fX8_forget] at hf
  refine lv_aload_n hx hb dX8_forget_0 rfl (lv_at hl 0 rfl) ?_
  refine va_get (D := D) (ci := 8) (v := .int t_sights) (C := RX8) (T := TX8) (N := 23) hx hb hts inX8 hown hK hP 0 rfl rfl 6 (by decide) (hts _ lfX8_150) (fun _ h9 => h9) rfl dX8_forget_1 ?_
  refine lv_istore_n (lv' := [(1, .int t_sights), (0, .ref q_t)]) hx hb dX8_forget_4 rfl hl (by decide) rfl (fun ls hl => ?_)
  refine lv_aload_n hx hb dX8_forget_5 rfl (lv_at hl 1 rfl) ?_
  refine lv_iconst (v := (0 : Int32)) hx hb dX8_forget_6 (by decide) ?_
  refine va_put (D := D) (ci := 8) (v := .int (0 : Int32)) (ty := .int) (C := RX8) (T := TX8) (N := 23) hx hb hts inX8 tyX8 tyX8_ok nmX8 hown hK hP hD hS 0 rfl rfl 6 (by decide) (hts _ lfX8_150) (fun _ h9 => h9) rfl (tyX8_ok 6 (by decide)) rfl rfl (Nat.le_of_ble_eq_true rfl) dX8_forget_7 (fun H locs hP hD hS => ?_)
  have hP : va_P D vwCl [(q_t, .inr (8, [.int t_there, .ref q_t_book, .ref q_t_now, .ref q_t_does, .ref q_t_bad, .ref q_t_likes, .int (0 : Int32), .ref q_t_sight, .int t_signs, .ref q_t_pad, .ref q_t_then, .int t_worseAt, .int t_worseWho, .int t_hours, .ref q_t_ahead, .int t_reason, .int t_acts, .ref q_t_most, .ref q_t_worth, .ref q_t_damp, .ref q_t_next, .ref q_t_image, .ref q_t_isKept]))] H := hP
  have hD : va_D A [(q_t, .inr (8, [.int t_there, .ref q_t_book, .ref q_t_now, .ref q_t_does, .ref q_t_bad, .ref q_t_likes, .int (0 : Int32), .ref q_t_sight, .int t_signs, .ref q_t_pad, .ref q_t_then, .int t_worseAt, .int t_worseWho, .int t_hours, .ref q_t_ahead, .int t_reason, .int t_acts, .ref q_t_most, .ref q_t_worth, .ref q_t_damp, .ref q_t_next, .ref q_t_image, .ref q_t_isKept]))] := hD
  refine lv_iload_n hx hb dX8_forget_10 rfl (lv_at hl 0 rfl) ?_
  exact RT _ _ hf _ _ _ H locs dX8_forget_11 (rkI _) hP hD hS
set_option maxHeartbeats 4000000 in
set_option maxRecDepth 100000 in
theorem kX8_guest (l : Launch) (D : va_G) (G : Nat → ClassId) (q_t q_t_book q_t_now q_t_does q_t_bad q_t_likes q_t_sight q_t_pad q_t_then q_t_ahead q_t_most q_t_worth q_t_damp q_t_next q_t_image q_t_isKept : Nat) (t_there : Int32) (t_sights : Int32) (t_signs : Int32) (t_worseAt : Int32) (t_worseWho : Int32) (t_hours : Int32) (t_reason : Int32) (t_acts : Int32) (t_likes : Nat → Int32) (v1 : Int32) (v2 : Int32) {r : Int32} {o_t_likes : Nat → Int32} (hf : fX8_guest t_likes v1 v2 = some (r, o_t_likes)) : rW l D G yX8_guest cX8_guest 4 (some .int) 2 82 [.ref q_t, .int v1, .int v2] [(q_t, .inr (8, [.int t_there, .ref q_t_book, .ref q_t_now, .ref q_t_does, .ref q_t_bad, .ref q_t_likes, .int t_sights, .ref q_t_sight, .int t_signs, .ref q_t_pad, .ref q_t_then, .int t_worseAt, .int t_worseWho, .int t_hours, .ref q_t_ahead, .int t_reason, .int t_acts, .ref q_t_most, .ref q_t_worth, .ref q_t_damp, .ref q_t_next, .ref q_t_image, .ref q_t_isKept])), (q_t_likes, .inl (G 0, 6, .inl t_likes))] [(q_t, .inr (8, [.int t_there, .ref q_t_book, .ref q_t_now, .ref q_t_does, .ref q_t_bad, .ref q_t_likes, .int t_sights, .ref q_t_sight, .int t_signs, .ref q_t_pad, .ref q_t_then, .int t_worseAt, .int t_worseWho, .int t_hours, .ref q_t_ahead, .int t_reason, .int t_acts, .ref q_t_most, .ref q_t_worth, .ref q_t_damp, .ref q_t_next, .ref q_t_image, .ref q_t_isKept])), (q_t_likes, .inl (G 0, 6, .inl o_t_likes))] (some (.int r)) := by
  refine rW_of (by decide) (Nat.le_of_ble_eq_true rfl) ?_
  intro p e s m args below meth c Q A hx hb hml hown hts hK hn hA RET H locs hP hD hS ls hl
  have RT : ∀ (a0_ : Int32) (a1_ : Nat → Int32), some (a0_, a1_) = some (r, o_t_likes) → ∀ (pc : Nat) (ls : Array Slot) (ins : Instr) (H : Heap) (locs : List Loc), decode cX8_guest pc = .ok (ins, 1) → rk (some .int) (some (.int a0_)) ins → va_P D vwCl [(q_t, .inr (8, [.int t_there, .ref q_t_book, .ref q_t_now, .ref q_t_does, .ref q_t_bad, .ref q_t_likes, .int t_sights, .ref q_t_sight, .int t_signs, .ref q_t_pad, .ref q_t_then, .int t_worseAt, .int t_worseWho, .int t_hours, .ref q_t_ahead, .int t_reason, .int t_acts, .ref q_t_most, .ref q_t_worth, .ref q_t_damp, .ref q_t_next, .ref q_t_image, .ref q_t_isKept])), (q_t_likes, .inl (G 0, 6, .inl a1_))] H → va_D A [(q_t, .inr (8, [.int t_there, .ref q_t_book, .ref q_t_now, .ref q_t_does, .ref q_t_bad, .ref q_t_likes, .int t_sights, .ref q_t_sight, .int t_signs, .ref q_t_pad, .ref q_t_then, .int t_worseAt, .int t_worseWho, .int t_hours, .ref q_t_ahead, .int t_reason, .int t_acts, .ref q_t_most, .ref q_t_worth, .ref q_t_damp, .ref q_t_next, .ref q_t_image, .ref q_t_isKept])), (q_t_likes, .inl (G 0, 6, .inl a1_))] → va_S A s.heap H locs → W p l e (kR 2 82) s m args below meth c H locs 0 0 Q (F0 m pc ls [.int a0_]) := by
    intro a0_ a1_ hy; obtain ⟨rfl, rfl⟩ := sm2 hy
    exact RET
  have hown : s.vm.findClass RX8 = some m.cls := hown
  have hl : lv_has ls 4 [(0, .ref q_t), (1, .int v1), (2, .int v2)] := hl
  clear RET
  rw [fX8_guest] at hf
  refine lv_iload_n hx hb dX8_guest_0 rfl (lv_at hl 1 rfl) ?_
  refine lv_iconst (v := (0 : Int32)) hx hb dX8_guest_1 (by decide) ?_
  refine lv_iconst (v := (5 : Int32)) hx hb dX8_guest_2 (by decide) ?_
  obtain ⟨r1, h2, hf⟩ := bd1E hf
  refine kO_stat hx hb hml hown hts hK hn hP (kX8_in l D G v1 (0 : Int32) (5 : Int32) h2) csX8_61 ⟨Nat.le_of_ble_eq_true rfl, Nat.le_of_ble_eq_true rfl⟩ [] rfl rfl hl.1 rfl (Nat.le_of_ble_eq_true rfl) ⟨Nat.zero_le _, Nat.zero_le _⟩ dX8_guest_3 ?_
  refine lv_if_ne (tgt := 11) hx hb dX8_guest_6 (by decide) (fun c3 => ?_) (fun c3 => ?_)
  · have hf := ifn c3 hf
    refine lv_iload_n hx hb dX8_guest_11 rfl (lv_at hl 2 rfl) ?_
    refine lv_iconst (v := (0 : Int32)) hx hb dX8_guest_12 (by decide) ?_
    refine lv_bipush (v := (63 : Int32)) hx hb dX8_guest_13 (by decide) ?_
    obtain ⟨r4, h5, hf⟩ := bd1E hf
    refine kO_stat hx hb hml hown hts hK hn hP (kX8_in l D G v2 (0 : Int32) (63 : Int32) h5) csX8_61 ⟨Nat.le_of_ble_eq_true rfl, Nat.le_of_ble_eq_true rfl⟩ [] rfl rfl hl.1 rfl (Nat.le_of_ble_eq_true rfl) ⟨Nat.zero_le _, Nat.zero_le _⟩ dX8_guest_15 ?_
    refine lv_if_ne (tgt := 24) hx hb dX8_guest_18 (by decide) (fun c6 => ?_) (fun c6 => ?_)
    · have hf := ifn c6 hf
      refine lv_aload_n hx hb dX8_guest_24 rfl (lv_at hl 0 rfl) ?_
      refine va_get (D := D) (ci := 8) (v := .ref q_t_likes) (C := RX8) (T := TX8) (N := 23) hx hb hts inX8 hown hK hP 0 rfl rfl 5 (by decide) (hts _ lfX8_22) (fun _ h9 => h9) rfl dX8_guest_25 ?_
      refine lv_iload_n hx hb dX8_guest_28 rfl (lv_at hl 1 rfl) ?_
      obtain ⟨x7, ex7, ix7, hf⟩ := ldIE hf
      refine k_iald hx hb hK hP 1 0 rfl rfl ix7 ex7 dX8_guest_29 ?_
      refine lv_istore_n (lv' := [(3, .int x7), (0, .ref q_t), (1, .int v1), (2, .int v2)]) hx hb dX8_guest_30 rfl hl (by decide) rfl (fun ls hl => ?_)
      refine lv_aload_n hx hb dX8_guest_31 rfl (lv_at hl 1 rfl) ?_
      refine va_get (D := D) (ci := 8) (v := .ref q_t_likes) (C := RX8) (T := TX8) (N := 23) hx hb hts inX8 hown hK hP 0 rfl rfl 5 (by decide) (hts _ lfX8_22) (fun _ h9 => h9) rfl dX8_guest_32 ?_
      refine lv_iload_n hx hb dX8_guest_35 rfl (lv_at hl 2 rfl) ?_
      refine lv_iload_n hx hb dX8_guest_36 rfl (lv_at hl 3 rfl) ?_
      obtain ⟨g8, eg8, ig8, hf⟩ := stIE hf
      refine k_iast hx hb hK hP hD hS 1 0 rfl rfl ig8 eg8 dX8_guest_37 (fun H locs hP hD hS => ?_)
      have hP : va_P D vwCl [(q_t, .inr (8, [.int t_there, .ref q_t_book, .ref q_t_now, .ref q_t_does, .ref q_t_bad, .ref q_t_likes, .int t_sights, .ref q_t_sight, .int t_signs, .ref q_t_pad, .ref q_t_then, .int t_worseAt, .int t_worseWho, .int t_hours, .ref q_t_ahead, .int t_reason, .int t_acts, .ref q_t_most, .ref q_t_worth, .ref q_t_damp, .ref q_t_next, .ref q_t_image, .ref q_t_isKept])), (q_t_likes, .inl (G 0, 6, .inl g8))] H := hP
      have hD : va_D A [(q_t, .inr (8, [.int t_there, .ref q_t_book, .ref q_t_now, .ref q_t_does, .ref q_t_bad, .ref q_t_likes, .int t_sights, .ref q_t_sight, .int t_signs, .ref q_t_pad, .ref q_t_then, .int t_worseAt, .int t_worseWho, .int t_hours, .ref q_t_ahead, .int t_reason, .int t_acts, .ref q_t_most, .ref q_t_worth, .ref q_t_damp, .ref q_t_next, .ref q_t_image, .ref q_t_isKept])), (q_t_likes, .inl (G 0, 6, .inl g8))] := hD
      refine lv_iload_n hx hb dX8_guest_38 rfl (lv_at hl 0 rfl) ?_
      exact RT _ _ hf _ _ _ H locs dX8_guest_39 (rkI _) hP hD hS
    · have hf := ifp c6 hf
      refine lv_bipush (v := (-2 : Int32)) hx hb dX8_guest_21 (by decide) ?_
      exact RT _ _ hf _ _ _ H locs dX8_guest_23 (rkI _) hP hD hS
  · have hf := ifp c3 hf
    refine lv_iconst (v := (-1 : Int32)) hx hb dX8_guest_9 (by decide) ?_
    exact RT _ _ hf _ _ _ H locs dX8_guest_10 (rkI _) hP hD hS
