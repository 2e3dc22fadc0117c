set_option maxHeartbeats 4000000 in
set_option maxRecDepth 100000 in
theorem kX8_home (l : Launch) (D : va_G) (G : Nat → ClassId) (fu : Nat) (q_t q_t_book q_t_now q_t_does q_t_bad q_t_likes q_t_sight q_t_pad q_t_then q_t_ahead q_t_most q_t_worth q_t_damp q_t_next q_t_image q_t_isKept : Nat) (t_there : Int32) (t_sights : Int32) (t_signs : Int32) (t_worseAt : Int32) (t_worseWho : Int32) (t_hours : Int32) (t_reason : Int32) (t_acts : Int32) (t_worth : Nat → Int64) (v1 : Int32) (v2 : Int32) (v3 : Int32) (v4 : Int32) (v5 : Int32) (v6 : Int32) {r : Int64} {o_t_worth : Nat → Int64} (hf : fX8_home fu t_worth v1 v2 v3 v4 v5 v6 = some (r, o_t_worth)) : rW l D G yX8_home cX8_home 18 (some .long) 2 90 [.ref q_t, .int v1, .int v2, .int v3, .int v4, .int v5, .int v6] [(q_t, .inr (8, [.int t_there, .ref q_t_book, .ref q_t_now, .ref q_t_does, .ref q_t_bad, .ref q_t_likes, .int t_sights, .ref q_t_sight, .int t_signs, .ref q_t_pad, .ref q_t_then, .int t_worseAt, .int t_worseWho, .int t_hours, .ref q_t_ahead, .int t_reason, .int t_acts, .ref q_t_most, .ref q_t_worth, .ref q_t_damp, .ref q_t_next, .ref q_t_image, .ref q_t_isKept])), (q_t_worth, .inl (G 1, 100, .inr (.inl t_worth)))] [(q_t, .inr (8, [.int t_there, .ref q_t_book, .ref q_t_now, .ref q_t_does, .ref q_t_bad, .ref q_t_likes, .int t_sights, .ref q_t_sight, .int t_signs, .ref q_t_pad, .ref q_t_then, .int t_worseAt, .int t_worseWho, .int t_hours, .ref q_t_ahead, .int t_reason, .int t_acts, .ref q_t_most, .ref q_t_worth, .ref q_t_damp, .ref q_t_next, .ref q_t_image, .ref q_t_isKept])), (q_t_worth, .inl (G 1, 100, .inr (.inl o_t_worth)))] (some (.long r)) := by
  refine rW_of (by decide) (Nat.le_of_ble_eq_true rfl) ?_
  intro p e s m args below meth c Q A hx hb hml hown hts hK hn hA RET H locs hP hD hS ls hl
  have RT : ∀ (a0_ : Int64) (a1_ : Nat → Int64), some (a0_, a1_) = some (r, o_t_worth) → ∀ (pc : Nat) (ls : Array Slot) (ins : Instr) (H : Heap) (locs : List Loc), decode cX8_home pc = .ok (ins, 1) → rk (some .long) (some (.long a0_)) ins → va_P D vwCl [(q_t, .inr (8, [.int t_there, .ref q_t_book, .ref q_t_now, .ref q_t_does, .ref q_t_bad, .ref q_t_likes, .int t_sights, .ref q_t_sight, .int t_signs, .ref q_t_pad, .ref q_t_then, .int t_worseAt, .int t_worseWho, .int t_hours, .ref q_t_ahead, .int t_reason, .int t_acts, .ref q_t_most, .ref q_t_worth, .ref q_t_damp, .ref q_t_next, .ref q_t_image, .ref q_t_isKept])), (q_t_worth, .inl (G 1, 100, .inr (.inl a1_)))] H → va_D A [(q_t, .inr (8, [.int t_there, .ref q_t_book, .ref q_t_now, .ref q_t_does, .ref q_t_bad, .ref q_t_likes, .int t_sights, .ref q_t_sight, .int t_signs, .ref q_t_pad, .ref q_t_then, .int t_worseAt, .int t_worseWho, .int t_hours, .ref q_t_ahead, .int t_reason, .int t_acts, .ref q_t_most, .ref q_t_worth, .ref q_t_damp, .ref q_t_next, .ref q_t_image, .ref q_t_isKept])), (q_t_worth, .inl (G 1, 100, .inr (.inl a1_)))] → va_S A s.heap H locs → W p l e (kR 2 90) s m args below meth c H locs 0 0 Q (F0 m pc ls [.long a0_]) := by
    intro a0_ a1_ hy; obtain ⟨rfl, rfl⟩ := sm2 hy
    exact RET
  have hown : s.vm.findClass RX8 = some m.cls := hown
  have hl : lv_has ls 18 [(0, .ref q_t), (1, .int v1), (2, .int v2), (3, .int v3), (4, .int v4), (5, .int v5), (6, .int v6)] := hl
  clear RET
  rw [fX8_home] at hf
  refine lv_iload_n hx hb dX8_home_0 rfl (lv_at hl 1 rfl) ?_
  refine lv_iconst (v := (0 : Int32)) hx hb dX8_home_1 (by decide) ?_
  refine lv_bipush (v := (9 : Int32)) hx hb dX8_home_2 (by decide) ?_
  obtain ⟨r1, h2, hf⟩ := bd1E hf
  refine kO_stat hx hb hml hown hts hK hn hP (kX8_in l D G v1 (0 : Int32) (9 : Int32) h2) csX8_61 ⟨Nat.le_of_ble_eq_true rfl, Nat.le_of_ble_eq_true rfl⟩ [] rfl rfl hl.1 rfl (Nat.le_of_ble_eq_true rfl) ⟨Nat.zero_le _, Nat.zero_le _⟩ dX8_home_4 ?_
  refine lv_if_eq (tgt := 61) hx hb dX8_home_7 (by decide) (fun c3 => ?_) (fun c3 => ?_)
  · have hf := ifp c3 hf
    refine lv_ldc2 (v := (-1000000000000000002 : Int64)) hx hb hown (hts _ lcX8_156) dX8_home_61 ?_
    exact RT _ _ hf _ _ _ H locs dX8_home_64 (rkL _) hP hD hS
  · have hf := ifn c3 hf
    refine lv_iload_n hx hb dX8_home_10 rfl (lv_at hl 2 rfl) ?_
    refine lv_iconst (v := (0 : Int32)) hx hb dX8_home_11 (by decide) ?_
    refine lv_bipush (v := (9 : Int32)) hx hb dX8_home_12 (by decide) ?_
    obtain ⟨r4, h5, hf⟩ := bd1E hf
    refine kO_stat hx hb hml hown hts hK hn hP (kX8_in l D G v2 (0 : Int32) (9 : Int32) h5) csX8_61 ⟨Nat.le_of_ble_eq_true rfl, Nat.le_of_ble_eq_true rfl⟩ [] rfl rfl hl.1 rfl (Nat.le_of_ble_eq_true rfl) ⟨Nat.zero_le _, Nat.zero_le _⟩ dX8_home_14 ?_
    refine lv_if_eq (tgt := 61) hx hb dX8_home_17 (by decide) (fun c6 => ?_) (fun c6 => ?_)
    · have hf := ifp c6 hf
      refine lv_ldc2 (v := (-1000000000000000002 : Int64)) hx hb hown (hts _ lcX8_156) dX8_home_61 ?_
      exact RT _ _ hf _ _ _ H locs dX8_home_64 (rkL _) hP hD hS
    · have hf := ifn c6 hf
      refine lv_iload_n hx hb dX8_home_20 rfl (lv_at hl 3 rfl) ?_
      refine lv_iconst (v := (0 : Int32)) hx hb dX8_home_21 (by decide) ?_
      refine lv_bipush (v := (10 : Int32)) hx hb dX8_home_22 (by decide) ?_
      obtain ⟨r7, h8, hf⟩ := bd1E hf
      refine kO_stat hx hb hml hown hts hK hn hP (kX8_in l D G v3 (0 : Int32) (10 : Int32) h8) csX8_61 ⟨Nat.le_of_ble_eq_true rfl, Nat.le_of_ble_eq_true rfl⟩ [] rfl rfl hl.1 rfl (Nat.le_of_ble_eq_true rfl) ⟨Nat.zero_le _, Nat.zero_le _⟩ dX8_home_24 ?_
      refine lv_if_eq (tgt := 61) hx hb dX8_home_27 (by decide) (fun c9 => ?_) (fun c9 => ?_)
      · have hf := ifp c9 hf
        refine lv_ldc2 (v := (-1000000000000000002 : Int64)) hx hb hown (hts _ lcX8_156) dX8_home_61 ?_
        exact RT _ _ hf _ _ _ H locs dX8_home_64 (rkL _) hP hD hS
      · have hf := ifn c9 hf
        refine lv_iload hx hb dX8_home_30 (lv_at hl 4 rfl) ?_
        refine lv_iconst (v := (0 : Int32)) hx hb dX8_home_32 (by decide) ?_
        refine lv_bipush (v := (9 : Int32)) hx hb dX8_home_33 (by decide) ?_
        obtain ⟨r10, h11, hf⟩ := bd1E hf
        refine kO_stat hx hb hml hown hts hK hn hP (kX8_in l D G v4 (0 : Int32) (9 : Int32) h11) csX8_61 ⟨Nat.le_of_ble_eq_true rfl, Nat.le_of_ble_eq_true rfl⟩ [] rfl rfl hl.1 rfl (Nat.le_of_ble_eq_true rfl) ⟨Nat.zero_le _, Nat.zero_le _⟩ dX8_home_35 ?_
        refine lv_if_eq (tgt := 61) hx hb dX8_home_38 (by decide) (fun c12 => ?_) (fun c12 => ?_)
        · have hf := ifp c12 hf
          refine lv_ldc2 (v := (-1000000000000000002 : Int64)) hx hb hown (hts _ lcX8_156) dX8_home_61 ?_
          exact RT _ _ hf _ _ _ H locs dX8_home_64 (rkL _) hP hD hS
        · have hf := ifn c12 hf
          refine lv_iload hx hb dX8_home_41 (lv_at hl 5 rfl) ?_
          refine lv_iconst (v := (0 : Int32)) hx hb dX8_home_43 (by decide) ?_
          refine lv_iconst (v := (1 : Int32)) hx hb dX8_home_44 (by decide) ?_
          obtain ⟨r13, h14, hf⟩ := bd1E hf
          refine kO_stat hx hb hml hown hts hK hn hP (kX8_in l D G v5 (0 : Int32) (1 : Int32) h14) csX8_61 ⟨Nat.le_of_ble_eq_true rfl, Nat.le_of_ble_eq_true rfl⟩ [] rfl rfl hl.1 rfl (Nat.le_of_ble_eq_true rfl) ⟨Nat.zero_le _, Nat.zero_le _⟩ dX8_home_45 ?_
          refine lv_if_eq (tgt := 61) hx hb dX8_home_48 (by decide) (fun c15 => ?_) (fun c15 => ?_)
          · have hf := ifp c15 hf
            refine lv_ldc2 (v := (-1000000000000000002 : Int64)) hx hb hown (hts _ lcX8_156) dX8_home_61 ?_
            exact RT _ _ hf _ _ _ H locs dX8_home_64 (rkL _) hP hD hS
          · have hf := ifn c15 hf
            refine lv_iload hx hb dX8_home_51 (lv_at hl 6 rfl) ?_
            refine lv_iconst (v := (0 : Int32)) hx hb dX8_home_53 (by decide) ?_
            refine lv_iconst (v := (1 : Int32)) hx hb dX8_home_54 (by decide) ?_
            obtain ⟨r16, h17, hf⟩ := bd1E hf
            refine kO_stat hx hb hml hown hts hK hn hP (kX8_in l D G v6 (0 : Int32) (1 : Int32) h17) csX8_61 ⟨Nat.le_of_ble_eq_true rfl, Nat.le_of_ble_eq_true rfl⟩ [] rfl rfl hl.1 rfl (Nat.le_of_ble_eq_true rfl) ⟨Nat.zero_le _, Nat.zero_le _⟩ dX8_home_55 ?_
            refine lv_if_ne (tgt := 65) hx hb dX8_home_58 (by decide) (fun c18 => ?_) (fun c18 => ?_)
            · have hf := ifn c18 hf
              refine lv_lconst (v := (1 : Int64)) hx hb dX8_home_65 (by decide) ?_
              refine lv_lstore (lv' := [(7, .long (1 : Int64)), (0, .ref q_t), (1, .int v1), (2, .int v2), (3, .int v3), (4, .int v4), (5, .int v5), (6, .int v6)]) hx hb dX8_home_66 hl (by decide) rfl (fun ls hl => ?_)
              refine lv_iconst (v := (1 : Int32)) hx hb dX8_home_68 (by decide) ?_
              refine lv_istore (lv' := [(9, .int (1 : Int32)), (7, .long (1 : Int64)), (0, .ref q_t), (1, .int v1), (2, .int v2), (3, .int v3), (4, .int v4), (5, .int v5), (6, .int v6)]) hx hb dX8_home_69 hl (by decide) rfl (fun ls hl => ?_)
              refine lv_iconst (v := (0 : Int32)) hx hb dX8_home_71 (by decide) ?_
              refine lv_istore (lv' := [(10, .int (0 : Int32)), (9, .int (1 : Int32)), (7, .long (1 : Int64)), (0, .ref q_t), (1, .int v1), (2, .int v2), (3, .int v3), (4, .int v4), (5, .int v5), (6, .int v6)]) hx hb dX8_home_72 hl (by decide) rfl (fun ls hl => ?_)
              obtain ⟨u258, u259, u260, h264, hf⟩ := bd3E hf
              have E261 : ∀ (z484 : Int64) (z485 : Int32) (z486 : Nat → Int64), some (z484, z485, z486) = some (u258, u259, u260) → ∀ (H : Heap) (locs : List Loc), va_P D vwCl [(q_t, .inr (8, [.int t_there, .ref q_t_book, .ref q_t_now, .ref q_t_does, .ref q_t_bad, .ref q_t_likes, .int t_sights, .ref q_t_sight, .int t_signs, .ref q_t_pad, .ref q_t_then, .int t_worseAt, .int t_worseWho, .int t_hours, .ref q_t_ahead, .int t_reason, .int t_acts, .ref q_t_most, .ref q_t_worth, .ref q_t_damp, .ref q_t_next, .ref q_t_image, .ref q_t_isKept])), (q_t_worth, .inl (G 1, 100, .inr (.inl z486)))] H → va_D A [(q_t, .inr (8, [.int t_there, .ref q_t_book, .ref q_t_now, .ref q_t_does, .ref q_t_bad, .ref q_t_likes, .int t_sights, .ref q_t_sight, .int t_signs, .ref q_t_pad, .ref q_t_then, .int t_worseAt, .int t_worseWho, .int t_hours, .ref q_t_ahead, .int t_reason, .int t_acts, .ref q_t_most, .ref q_t_worth, .ref q_t_damp, .ref q_t_next, .ref q_t_image, .ref q_t_isKept])), (q_t_worth, .inl (G 1, 100, .inr (.inl z486)))] → va_S A s.heap H locs → ∀ ls : Array Slot, lv_has ls 18 [(0, .ref q_t), (1, .int v1), (2, .int v2), (5, .int v5), (6, .int v6), (7, .long z484), (9, .int z485)] → W p l e (kR 2 90) s m args below meth c H locs 0 0 Q (F0 m 283 ls []) := by
                intro z484 z485 z486 hy; obtain ⟨rfl, rfl, rfl⟩ := sm3 hy
                intro H locs hP hD hS ls hl
                refine lv_iload hx hb dX8_home_283 (lv_at hl 3 rfl) ?_
                refine lv_iconst (v := (1 : Int32)) hx hb dX8_home_285 (by decide) ?_
                refine lv_icmp_ne (tgt := 302) hx hb dX8_home_286 (by decide) (fun c487 => ?_) (fun c487 => ?_)
                · have hf := ifn c487 hf
                  refine lv_aload_n hx hb dX8_home_302 rfl (lv_at hl 0 rfl) ?_
                  refine va_get (D := D) (ci := 8) (v := .ref q_t_worth) (C := RX8) (T := TX8) (N := 23) hx hb hts inX8 hown hK hP 0 rfl rfl 18 (by decide) (hts _ lfX8_40) (fun _ h9 => h9) rfl dX8_home_303 ?_
                  refine lv_bipush (v := (10 : Int32)) hx hb dX8_home_306 (by decide) ?_
                  refine lv_iload_n hx hb dX8_home_308 rfl (lv_at hl 2 rfl) ?_
                  refine lv_imul hx hb dX8_home_309 ?_
                  refine lv_iload_n hx hb dX8_home_310 rfl (lv_at hl 1 rfl) ?_
                  refine lv_iadd hx hb dX8_home_311 ?_
                  obtain ⟨x488, ex488, ix488, hf⟩ := ldLE hf
                  refine k_lald hx hb hK hP 1 1 rfl rfl ix488 ex488 dX8_home_312 ?_
                  refine lv_lload hx hb dX8_home_313 (lv_at hl 5 rfl) ?_
                  refine lv_iload hx hb dX8_home_315 (lv_at hl 4 rfl) ?_
                  obtain ⟨r489, h490, hf⟩ := bd1E hf
                  refine kO_stat hx hb hml hown hts hK hn hP (kX8_part l D G fu x488 z484 v6 h490) csX8_160 ⟨Nat.le_of_ble_eq_true rfl, Nat.le_of_ble_eq_true rfl⟩ [] rfl rfl hl.1 rfl (Nat.le_of_ble_eq_true rfl) ⟨Nat.zero_le _, Nat.zero_le _⟩ dX8_home_317 ?_
                  exact RT _ _ hf _ _ _ H locs dX8_home_320 (rkL _) hP hD hS
                · have hf := ifp c487 hf
                  refine lv_iload hx hb dX8_home_289 (lv_at hl 6 rfl) ?_
                  refine lv_if_eq (tgt := 298) hx hb dX8_home_291 (by decide) (fun c491 => ?_) (fun c491 => ?_)
                  · have hf := ifp c491 hf
                    refine lv_lconst (v := (0 : Int64)) hx hb dX8_home_298 (by decide) ?_
                    refine lv_goto (tgt := 320) hx hb dX8_home_299 (by decide) ?_
                    exact RT _ _ hf _ _ _ H locs dX8_home_320 (rkL _) hP hD hS
                  · have hf := ifn c491 hf
                    refine lv_lconst (v := (1 : Int64)) hx hb dX8_home_294 (by decide) ?_
                    refine lv_goto (tgt := 320) hx hb dX8_home_295 (by decide) ?_
                    exact RT _ _ hf _ _ _ H locs dX8_home_320 (rkL _) hP hD hS
              have L262 : ∀ (k : Nat) (w254 : Int64) (w255 : Int32) (w256 : Int32) (w257 : Nat → Int64), fX8_home_74 fu v2 v3 v4 v1 k w254 w255 w256 w257 = some (u258, u259, u260) → ∀ (H : Heap) (locs : List Loc), va_P D vwCl [(q_t, .inr (8, [.int t_there, .ref q_t_book, .ref q_t_now, .ref q_t_does, .ref q_t_bad, .ref q_t_likes, .int t_sights, .ref q_t_sight, .int t_signs, .ref q_t_pad, .ref q_t_then, .int t_worseAt, .int t_worseWho, .int t_hours, .ref q_t_ahead, .int t_reason, .int t_acts, .ref q_t_most, .ref q_t_worth, .ref q_t_damp, .ref q_t_next, .ref q_t_image, .ref q_t_isKept])), (q_t_worth, .inl (G 1, 100, .inr (.inl w257)))] H → va_D A [(q_t, .inr (8, [.int t_there, .ref q_t_book, .ref q_t_now, .ref q_t_does, .ref q_t_bad, .ref q_t_likes, .int t_sights, .ref q_t_sight, .int t_signs, .ref q_t_pad, .ref q_t_then, .int t_worseAt, .int t_worseWho, .int t_hours, .ref q_t_ahead, .int t_reason, .int t_acts, .ref q_t_most, .ref q_t_worth, .ref q_t_damp, .ref q_t_next, .ref q_t_image, .ref q_t_isKept])), (q_t_worth, .inl (G 1, 100, .inr (.inl w257)))] → va_S A s.heap H locs → ∀ ls : Array Slot, lv_has ls 18 [(0, .ref q_t), (1, .int v1), (2, .int v2), (3, .int v3), (4, .int v4), (5, .int v5), (6, .int v6), (7, .long w254), (9, .int w255), (10, .int w256)] → W p l e (kR 2 90) s m args below meth c H locs 0 0 Q (F0 m 74 ls []) := by
                intro k; induction k with
                | zero => intro w254 w255 w256 w257 hf; exact nosome hf
                | succ k ih =>
                  intro w254 w255 w256 w257 hf; rw [fX8_home_74] at hf
                  intro H locs hP hD hS ls hl
                  refine lv_iload hx hb dX8_home_74 (lv_at hl 9 rfl) ?_
                  refine lv_iload_n hx hb dX8_home_76 rfl (lv_at hl 2 rfl) ?_
                  refine lv_icmp_gt (tgt := 283) hx hb dX8_home_77 (by decide) (fun c267 => ?_) (fun c267 => ?_)
                  · have hf := ifp c267 hf
                    exact E261 _ _ _ hf H locs hP hD hS ls (lv_sub hl [0, 1, 2, 5, 6, 7, 8] rfl)
                  · have hf := ifn c267 hf
                    refine lv_lload hx hb dX8_home_80 (lv_at hl 7 rfl) ?_
                    refine lv_iload hx hb dX8_home_82 (lv_at hl 9 rfl) ?_
                    obtain ⟨j269, h483, hf⟩ := bd1E hf
                    have E481 : ∀ (z270 : Int64), some z270 = some j269 → ∀ (H : Heap) (locs : List Loc), va_P D vwCl [(q_t, .inr (8, [.int t_there, .ref q_t_book, .ref q_t_now, .ref q_t_does, .ref q_t_bad, .ref q_t_likes, .int t_sights, .ref q_t_sight, .int t_signs, .ref q_t_pad, .ref q_t_then, .int t_worseAt, .int t_worseWho, .int t_hours, .ref q_t_ahead, .int t_reason, .int t_acts, .ref q_t_most, .ref q_t_worth, .ref q_t_damp, .ref q_t_next, .ref q_t_image, .ref q_t_isKept])), (q_t_worth, .inl (G 1, 100, .inr (.inl w257)))] H → va_D A [(q_t, .inr (8, [.int t_there, .ref q_t_book, .ref q_t_now, .ref q_t_does, .ref q_t_bad, .ref q_t_likes, .int t_sights, .ref q_t_sight, .int t_signs, .ref q_t_pad, .ref q_t_then, .int t_worseAt, .int t_worseWho, .int t_hours, .ref q_t_ahead, .int t_reason, .int t_acts, .ref q_t_most, .ref q_t_worth, .ref q_t_damp, .ref q_t_next, .ref q_t_image, .ref q_t_isKept])), (q_t_worth, .inl (G 1, 100, .inr (.inl w257)))] → va_S A s.heap H locs → ∀ ls : Array Slot, lv_has ls 18 [(0, .ref q_t), (1, .int v1), (2, .int v2), (3, .int v3), (4, .int v4), (5, .int v5), (6, .int v6), (9, .int w255), (10, .int w256)] → W p l e (kR 2 90) s m args below meth c H locs 0 0 Q (F0 m 94 ls [.long z270, .long w254]) := by
                      intro z270 hy; obtain rfl := sm1 hy
                      intro H locs hP hD hS ls hl
                      refine lv_lmul hx hb dX8_home_94 ?_
                      refine lv_topl (fun y271 ey271 => ?_)
                      have hf := nmeU ey271 hf
                      refine lv_lstore (lv' := [(7, .long y271), (0, .ref q_t), (1, .int v1), (2, .int v2), (3, .int v3), (4, .int v4), (5, .int v5), (6, .int v6), (9, .int w255), (10, .int w256)]) hx hb dX8_home_95 hl (by decide) rfl (fun ls hl => ?_)
                      refine lv_iconst (v := (0 : Int32)) hx hb dX8_home_97 (by decide) ?_
                      refine lv_istore (lv' := [(11, .int (0 : Int32)), (7, .long y271), (0, .ref q_t), (1, .int v1), (2, .int v2), (3, .int v3), (4, .int v4), (5, .int v5), (6, .int v6), (9, .int w255), (10, .int w256)]) hx hb dX8_home_98 hl (by decide) rfl (fun ls hl => ?_)
                      obtain ⟨u382, u383, h387, hf⟩ := bd2E hf
                      have E384 : ∀ (z478 : Int32) (z479 : Nat → Int64), some (z478, z479) = some (u382, u383) → ∀ (H : Heap) (locs : List Loc), va_P D vwCl [(q_t, .inr (8, [.int t_there, .ref q_t_book, .ref q_t_now, .ref q_t_does, .ref q_t_bad, .ref q_t_likes, .int t_sights, .ref q_t_sight, .int t_signs, .ref q_t_pad, .ref q_t_then, .int t_worseAt, .int t_worseWho, .int t_hours, .ref q_t_ahead, .int t_reason, .int t_acts, .ref q_t_most, .ref q_t_worth, .ref q_t_damp, .ref q_t_next, .ref q_t_image, .ref q_t_isKept])), (q_t_worth, .inl (G 1, 100, .inr (.inl z479)))] H → va_D A [(q_t, .inr (8, [.int t_there, .ref q_t_book, .ref q_t_now, .ref q_t_does, .ref q_t_bad, .ref q_t_likes, .int t_sights, .ref q_t_sight, .int t_signs, .ref q_t_pad, .ref q_t_then, .int t_worseAt, .int t_worseWho, .int t_hours, .ref q_t_ahead, .int t_reason, .int t_acts, .ref q_t_most, .ref q_t_worth, .ref q_t_damp, .ref q_t_next, .ref q_t_image, .ref q_t_isKept])), (q_t_worth, .inl (G 1, 100, .inr (.inl z479)))] → va_S A s.heap H locs → ∀ ls : Array Slot, lv_has ls 18 [(0, .ref q_t), (1, .int v1), (2, .int v2), (3, .int v3), (4, .int v4), (5, .int v5), (6, .int v6), (7, .long y271), (9, .int z478), (10, .int w256)] → W p l e (kR 2 90) s m args below meth c H locs 0 0 Q (F0 m 277 ls []) := by
                        intro z478 z479 hy; obtain ⟨rfl, rfl⟩ := sm2 hy
                        intro H locs hP hD hS ls hl
                        obtain ⟨y480, ey480⟩ : ∃ y : Int32, y = w256 + (1 : Int32) := ⟨_, rfl⟩
                        have hf := nmeU ey480 hf
                        refine lv_iinc (v := y480) (lv' := [(10, .int y480), (0, .ref q_t), (1, .int v1), (2, .int v2), (3, .int v3), (4, .int v4), (5, .int v5), (6, .int v6), (7, .long y271), (9, .int z478)]) hx hb dX8_home_277 hl (k := 9) rfl (by rw [ey480]; rfl) (by decide) rfl (fun ls hl => ?_)
                        refine lv_goto (tgt := 74) hx hb dX8_home_280 (by decide) ?_
                        exact ih _ _ _ _ hf H locs hP hD hS ls (lv_sub hl [1, 2, 3, 4, 5, 6, 7, 8, 9, 0] rfl)
                      have L385 : ∀ (k : Nat) (w379 : Int32) (w380 : Int32) (w381 : Nat → Int64), fX8_home_100 y271 w256 v3 v4 v2 v1 k w379 w380 w381 = some (u382, u383) → ∀ (H : Heap) (locs : List Loc), va_P D vwCl [(q_t, .inr (8, [.int t_there, .ref q_t_book, .ref q_t_now, .ref q_t_does, .ref q_t_bad, .ref q_t_likes, .int t_sights, .ref q_t_sight, .int t_signs, .ref q_t_pad, .ref q_t_then, .int t_worseAt, .int t_worseWho, .int t_hours, .ref q_t_ahead, .int t_reason, .int t_acts, .ref q_t_most, .ref q_t_worth, .ref q_t_damp, .ref q_t_next, .ref q_t_image, .ref q_t_isKept])), (q_t_worth, .inl (G 1, 100, .inr (.inl w381)))] H → va_D A [(q_t, .inr (8, [.int t_there, .ref q_t_book, .ref q_t_now, .ref q_t_does, .ref q_t_bad, .ref q_t_likes, .int t_sights, .ref q_t_sight, .int t_signs, .ref q_t_pad, .ref q_t_then, .int t_worseAt, .int t_worseWho, .int t_hours, .ref q_t_ahead, .int t_reason, .int t_acts, .ref q_t_most, .ref q_t_worth, .ref q_t_damp, .ref q_t_next, .ref q_t_image, .ref q_t_isKept])), (q_t_worth, .inl (G 1, 100, .inr (.inl w381)))] → va_S A s.heap H locs → ∀ ls : Array Slot, lv_has ls 18 [(0, .ref q_t), (1, .int v1), (2, .int v2), (3, .int v3), (4, .int v4), (5, .int v5), (6, .int v6), (7, .long y271), (9, .int w379), (10, .int w256), (11, .int w380)] → W p l e (kR 2 90) s m args below meth c H locs 0 0 Q (F0 m 100 ls []) := by
                        intro k; induction k with
                        | zero => intro w379 w380 w381 hf; exact nosome hf
                        | succ k ih =>
                          intro w379 w380 w381 hf; rw [fX8_home_100] at hf
                          intro H locs hP hD hS ls hl
                          refine lv_iload hx hb dX8_home_100 (lv_at hl 10 rfl) ?_
                          refine lv_bipush (v := (10 : Int32)) hx hb dX8_home_102 (by decide) ?_
                          refine lv_icmp_ge (tgt := 277) hx hb dX8_home_104 (by decide) (fun c390 => ?_) (fun c390 => ?_)
                          · have hf := ifp c390 hf
                            exact E384 _ _ hf H locs hP hD hS ls (lv_sub hl [0, 1, 2, 3, 4, 5, 6, 7, 8, 9] rfl)
                          · have hf := ifn c390 hf
                            refine lv_bipush (v := (10 : Int32)) hx hb dX8_home_107 (by decide) ?_
                            refine lv_iload hx hb dX8_home_109 (lv_at hl 10 rfl) ?_
                            refine lv_isub hx hb dX8_home_111 ?_
                            refine lv_i2l (v := (((10 : Int32) - w380)).toInt64) hx hb dX8_home_112 rfl ?_
                            refine lv_lload hx hb dX8_home_113 (lv_at hl 7 rfl) ?_
                            refine lv_lmul hx hb dX8_home_115 ?_
                            refine lv_topl (fun y391 ey391 => ?_)
                            have hf := nmeU ey391 hf
                            refine lv_lstore (lv' := [(12, .long y391), (0, .ref q_t), (1, .int v1), (2, .int v2), (3, .int v3), (4, .int v4), (5, .int v5), (6, .int v6), (7, .long y271), (9, .int w379), (10, .int w256), (11, .int w380)]) hx hb dX8_home_116 hl (by decide) rfl (fun ls hl => ?_)
                            refine lv_lload hx hb dX8_home_118 (lv_at hl 0 rfl) ?_
                            refine lv_lstore (lv' := [(14, .long y391), (12, .long y391), (0, .ref q_t), (1, .int v1), (2, .int v2), (3, .int v3), (4, .int v4), (5, .int v5), (6, .int v6), (7, .long y271), (9, .int w379), (10, .int w256), (11, .int w380)]) hx hb dX8_home_120 hl (by decide) rfl (fun ls hl => ?_)
                            refine lv_iload hx hb dX8_home_122 (lv_at hl 11 rfl) ?_
                            obtain ⟨j408, h477, hf⟩ := bd1E hf
                            have E460 : ∀ (z409 : Int64), some z409 = some j408 → ∀ (H : Heap) (locs : List Loc), va_P D vwCl [(q_t, .inr (8, [.int t_there, .ref q_t_book, .ref q_t_now, .ref q_t_does, .ref q_t_bad, .ref q_t_likes, .int t_sights, .ref q_t_sight, .int t_signs, .ref q_t_pad, .ref q_t_then, .int t_worseAt, .int t_worseWho, .int t_hours, .ref q_t_ahead, .int t_reason, .int t_acts, .ref q_t_most, .ref q_t_worth, .ref q_t_damp, .ref q_t_next, .ref q_t_image, .ref q_t_isKept])), (q_t_worth, .inl (G 1, 100, .inr (.inl w381)))] H → va_D A [(q_t, .inr (8, [.int t_there, .ref q_t_book, .ref q_t_now, .ref q_t_does, .ref q_t_bad, .ref q_t_likes, .int t_sights, .ref q_t_sight, .int t_signs, .ref q_t_pad, .ref q_t_then, .int t_worseAt, .int t_worseWho, .int t_hours, .ref q_t_ahead, .int t_reason, .int t_acts, .ref q_t_most, .ref q_t_worth, .ref q_t_damp, .ref q_t_next, .ref q_t_image, .ref q_t_isKept])), (q_t_worth, .inl (G 1, 100, .inr (.inl w381)))] → va_S A s.heap H locs → ∀ ls : Array Slot, lv_has ls 18 [(0, .ref q_t), (1, .int v1), (2, .int v2), (3, .int v3), (4, .int v4), (5, .int v5), (6, .int v6), (7, .long y271), (9, .int w379), (10, .int w256), (11, .int w380), (12, .long y391), (14, .long z409)] → W p l e (kR 2 90) s m args below meth c H locs 0 0 Q (F0 m 211 ls []) := by
                              intro z409 hy; obtain rfl := sm1 hy
                              intro H locs hP hD hS ls hl
                              refine lv_aload_n hx hb dX8_home_211 rfl (lv_at hl 0 rfl) ?_
                              refine va_get (D := D) (ci := 8) (v := .ref q_t_worth) (C := RX8) (T := TX8) (N := 23) hx hb hts inX8 hown hK hP 0 rfl rfl 18 (by decide) (hts _ lfX8_40) (fun _ h9 => h9) rfl dX8_home_212 ?_
                              refine lv_bipush (v := (10 : Int32)) hx hb dX8_home_215 (by decide) ?_
                              refine lv_iload hx hb dX8_home_217 (lv_at hl 9 rfl) ?_
                              refine lv_imul hx hb dX8_home_219 ?_
                              refine lv_iload hx hb dX8_home_220 (lv_at hl 10 rfl) ?_
                              refine lv_iadd hx hb dX8_home_222 ?_
                              refine lv_lload hx hb dX8_home_223 (lv_at hl 11 rfl) ?_
                              refine lv_lload hx hb dX8_home_225 (lv_at hl 12 rfl) ?_
                              refine W.lcmp hx hb dX8_home_227 ?_
                              obtain ⟨j411, h459, hf⟩ := bd1E hf
                              have E457 : ∀ (z412 : Int64), some z412 = some j411 → ∀ (H : Heap) (locs : List Loc), va_P D vwCl [(q_t, .inr (8, [.int t_there, .ref q_t_book, .ref q_t_now, .ref q_t_does, .ref q_t_bad, .ref q_t_likes, .int t_sights, .ref q_t_sight, .int t_signs, .ref q_t_pad, .ref q_t_then, .int t_worseAt, .int t_worseWho, .int t_hours, .ref q_t_ahead, .int t_reason, .int t_acts, .ref q_t_most, .ref q_t_worth, .ref q_t_damp, .ref q_t_next, .ref q_t_image, .ref q_t_isKept])), (q_t_worth, .inl (G 1, 100, .inr (.inl w381)))] H → va_D A [(q_t, .inr (8, [.int t_there, .ref q_t_book, .ref q_t_now, .ref q_t_does, .ref q_t_bad, .ref q_t_likes, .int t_sights, .ref q_t_sight, .int t_signs, .ref q_t_pad, .ref q_t_then, .int t_worseAt, .int t_worseWho, .int t_hours, .ref q_t_ahead, .int t_reason, .int t_acts, .ref q_t_most, .ref q_t_worth, .ref q_t_damp, .ref q_t_next, .ref q_t_image, .ref q_t_isKept])), (q_t_worth, .inl (G 1, 100, .inr (.inl w381)))] → va_S A s.heap H locs → ∀ ls : Array Slot, lv_has ls 18 [(0, .ref q_t), (1, .int v1), (2, .int v2), (3, .int v3), (4, .int v4), (5, .int v5), (6, .int v6), (7, .long y271), (9, .int w379), (10, .int w256), (11, .int w380), (12, .long y391), (14, .long z409)] → W p l e (kR 2 90) s m args below meth c H locs 0 0 Q (F0 m 238 ls [.long z412, .int (((10 : Int32) * w256) + w380), .ref q_t_worth]) := by
                                intro z412 hy; obtain rfl := sm1 hy
                                intro H locs hP hD hS ls hl
                                obtain ⟨g413, eg413, ig413, hf⟩ := stLE hf
                                refine k_last hx hb hK hP hD hS 1 1 rfl rfl ig413 eg413 dX8_home_238 (fun H locs hP hD hS => ?_)
                                have hP : va_P D vwCl [(q_t, .inr (8, [.int t_there, .ref q_t_book, .ref q_t_now, .ref q_t_does, .ref q_t_bad, .ref q_t_likes, .int t_sights, .ref q_t_sight, .int t_signs, .ref q_t_pad, .ref q_t_then, .int t_worseAt, .int t_worseWho, .int t_hours, .ref q_t_ahead, .int t_reason, .int t_acts, .ref q_t_most, .ref q_t_worth, .ref q_t_damp, .ref q_t_next, .ref q_t_image, .ref q_t_isKept])), (q_t_worth, .inl (G 1, 100, .inr (.inl g413)))] H := hP
                                have hD : va_D A [(q_t, .inr (8, [.int t_there, .ref q_t_book, .ref q_t_now, .ref q_t_does, .ref q_t_bad, .ref q_t_likes, .int t_sights, .ref q_t_sight, .int t_signs, .ref q_t_pad, .ref q_t_then, .int t_worseAt, .int t_worseWho, .int t_hours, .ref q_t_ahead, .int t_reason, .int t_acts, .ref q_t_most, .ref q_t_worth, .ref q_t_damp, .ref q_t_next, .ref q_t_image, .ref q_t_isKept])), (q_t_worth, .inl (G 1, 100, .inr (.inl g413)))] := hD
                                refine lv_iload hx hb dX8_home_239 (lv_at hl 9 rfl) ?_
                                refine lv_iload_n hx hb dX8_home_241 rfl (lv_at hl 2 rfl) ?_
                                obtain ⟨j433, h456, hf⟩ := bd1E hf
                                have E436 : ∀ (z434 : Int32), some z434 = some j433 → ∀ (H : Heap) (locs : List Loc), va_P D vwCl [(q_t, .inr (8, [.int t_there, .ref q_t_book, .ref q_t_now, .ref q_t_does, .ref q_t_bad, .ref q_t_likes, .int t_sights, .ref q_t_sight, .int t_signs, .ref q_t_pad, .ref q_t_then, .int t_worseAt, .int t_worseWho, .int t_hours, .ref q_t_ahead, .int t_reason, .int t_acts, .ref q_t_most, .ref q_t_worth, .ref q_t_damp, .ref q_t_next, .ref q_t_image, .ref q_t_isKept])), (q_t_worth, .inl (G 1, 100, .inr (.inl g413)))] H → va_D A [(q_t, .inr (8, [.int t_there, .ref q_t_book, .ref q_t_now, .ref q_t_does, .ref q_t_bad, .ref q_t_likes, .int t_sights, .ref q_t_sight, .int t_signs, .ref q_t_pad, .ref q_t_then, .int t_worseAt, .int t_worseWho, .int t_hours, .ref q_t_ahead, .int t_reason, .int t_acts, .ref q_t_most, .ref q_t_worth, .ref q_t_damp, .ref q_t_next, .ref q_t_image, .ref q_t_isKept])), (q_t_worth, .inl (G 1, 100, .inr (.inl g413)))] → va_S A s.heap H locs → ∀ ls : Array Slot, lv_has ls 18 [(0, .ref q_t), (1, .int v1), (2, .int v2), (3, .int v3), (4, .int v4), (5, .int v5), (6, .int v6), (7, .long y271), (10, .int w256), (11, .int w380)] → W p l e (kR 2 90) s m args below meth c H locs 0 0 Q (F0 m 269 ls [.int z434]) := by
                                  intro z434 hy; obtain rfl := sm1 hy
                                  intro H locs hP hD hS ls hl
                                  refine lv_istore (lv' := [(9, .int z434), (0, .ref q_t), (1, .int v1), (2, .int v2), (3, .int v3), (4, .int v4), (5, .int v5), (6, .int v6), (7, .long y271), (10, .int w256), (11, .int w380)]) hx hb dX8_home_269 hl (by decide) rfl (fun ls hl => ?_)
                                  obtain ⟨y435, ey435⟩ : ∃ y : Int32, y = w380 + (1 : Int32) := ⟨_, rfl⟩
                                  have hf := nmeU ey435 hf
                                  refine lv_iinc (v := y435) (lv' := [(11, .int y435), (9, .int z434), (0, .ref q_t), (1, .int v1), (2, .int v2), (3, .int v3), (4, .int v4), (5, .int v5), (6, .int v6), (7, .long y271), (10, .int w256)]) hx hb dX8_home_271 hl (k := 10) rfl (by rw [ey435]; rfl) (by decide) rfl (fun ls hl => ?_)
                                  refine lv_goto (tgt := 100) hx hb dX8_home_274 (by decide) ?_
                                  exact ih _ _ _ hf H locs hP hD hS ls (lv_sub hl [2, 3, 4, 5, 6, 7, 8, 9, 1, 10, 0] rfl)
                                have hf := h456
                                refine lv_icmp_ne (tgt := 267) hx hb dX8_home_242 (by decide) (fun c437 => ?_) (fun c437 => ?_)
                                · have hf := ifn c437 hf
                                  refine lv_iload hx hb dX8_home_267 (lv_at hl 8 rfl) ?_
                                  exact E436 _ hf H locs hP hD hS ls (lv_sub hl [0, 1, 2, 3, 4, 5, 6, 7, 9, 10] rfl)
                                · have hf := ifp c437 hf
                                  refine lv_iload hx hb dX8_home_245 (lv_at hl 10 rfl) ?_
                                  refine lv_iload_n hx hb dX8_home_247 rfl (lv_at hl 1 rfl) ?_
                                  obtain ⟨j445, h455, hf⟩ := bd1E hf
                                  have E447 : ∀ (z446 : Int32), some z446 = some j445 → ∀ (H : Heap) (locs : List Loc), va_P D vwCl [(q_t, .inr (8, [.int t_there, .ref q_t_book, .ref q_t_now, .ref q_t_does, .ref q_t_bad, .ref q_t_likes, .int t_sights, .ref q_t_sight, .int t_signs, .ref q_t_pad, .ref q_t_then, .int t_worseAt, .int t_worseWho, .int t_hours, .ref q_t_ahead, .int t_reason, .int t_acts, .ref q_t_most, .ref q_t_worth, .ref q_t_damp, .ref q_t_next, .ref q_t_image, .ref q_t_isKept])), (q_t_worth, .inl (G 1, 100, .inr (.inl g413)))] H → va_D A [(q_t, .inr (8, [.int t_there, .ref q_t_book, .ref q_t_now, .ref q_t_does, .ref q_t_bad, .ref q_t_likes, .int t_sights, .ref q_t_sight, .int t_signs, .ref q_t_pad, .ref q_t_then, .int t_worseAt, .int t_worseWho, .int t_hours, .ref q_t_ahead, .int t_reason, .int t_acts, .ref q_t_most, .ref q_t_worth, .ref q_t_damp, .ref q_t_next, .ref q_t_image, .ref q_t_isKept])), (q_t_worth, .inl (G 1, 100, .inr (.inl g413)))] → va_S A s.heap H locs → ∀ ls : Array Slot, lv_has ls 18 [(0, .ref q_t), (1, .int v1), (2, .int v2), (3, .int v3), (4, .int v4), (5, .int v5), (6, .int v6), (7, .long y271), (10, .int w256), (11, .int w380)] → W p l e (kR 2 90) s m args below meth c H locs 0 0 Q (F0 m 269 ls [.int z446]) := by
                                    intro z446 hy; obtain rfl := sm1 hy
                                    intro H locs hP hD hS ls hl
                                    exact E436 _ hf H locs hP hD hS ls (lv_sub hl [0, 1, 2, 3, 4, 5, 6, 7, 8, 9] rfl)
                                  have hf := h455
                                  refine lv_icmp_ne (tgt := 267) hx hb dX8_home_248 (by decide) (fun c448 => ?_) (fun c448 => ?_)
                                  · have hf := ifn c448 hf
                                    refine lv_iload hx hb dX8_home_267 (lv_at hl 8 rfl) ?_
                                    exact E447 _ hf H locs hP hD hS ls (lv_sub hl [0, 1, 2, 3, 4, 5, 6, 7, 9, 10] rfl)
                                  · have hf := ifp c448 hf
                                    refine lv_lload hx hb dX8_home_251 (lv_at hl 11 rfl) ?_
                                    refine lv_lload hx hb dX8_home_253 (lv_at hl 12 rfl) ?_
                                    refine W.lcmp hx hb dX8_home_255 ?_
                                    obtain ⟨j450, h454, hf⟩ := bd1E hf
                                    have E452 : ∀ (z451 : Int32), some z451 = some j450 → ∀ (H : Heap) (locs : List Loc), va_P D vwCl [(q_t, .inr (8, [.int t_there, .ref q_t_book, .ref q_t_now, .ref q_t_does, .ref q_t_bad, .ref q_t_likes, .int t_sights, .ref q_t_sight, .int t_signs, .ref q_t_pad, .ref q_t_then, .int t_worseAt, .int t_worseWho, .int t_hours, .ref q_t_ahead, .int t_reason, .int t_acts, .ref q_t_most, .ref q_t_worth, .ref q_t_damp, .ref q_t_next, .ref q_t_image, .ref q_t_isKept])), (q_t_worth, .inl (G 1, 100, .inr (.inl g413)))] H → va_D A [(q_t, .inr (8, [.int t_there, .ref q_t_book, .ref q_t_now, .ref q_t_does, .ref q_t_bad, .ref q_t_likes, .int t_sights, .ref q_t_sight, .int t_signs, .ref q_t_pad, .ref q_t_then, .int t_worseAt, .int t_worseWho, .int t_hours, .ref q_t_ahead, .int t_reason, .int t_acts, .ref q_t_most, .ref q_t_worth, .ref q_t_damp, .ref q_t_next, .ref q_t_image, .ref q_t_isKept])), (q_t_worth, .inl (G 1, 100, .inr (.inl g413)))] → va_S A s.heap H locs → ∀ ls : Array Slot, lv_has ls 18 [(0, .ref q_t), (1, .int v1), (2, .int v2), (3, .int v3), (4, .int v4), (5, .int v5), (6, .int v6), (7, .long y271), (10, .int w256), (11, .int w380)] → W p l e (kR 2 90) s m args below meth c H locs 0 0 Q (F0 m 269 ls [.int z451]) := by
                                      intro z451 hy; obtain rfl := sm1 hy
                                      intro H locs hP hD hS ls hl
                                      exact E447 _ hf H locs hP hD hS ls (lv_sub hl [0, 1, 2, 3, 4, 5, 6, 7, 8, 9] rfl)
                                    have hf := h454
                                    refine lv_if_lt (tgt := 263) hx hb dX8_home_256 (by decide) (fun c453 => ?_) (fun c453 => ?_)
                                    · have hf := ifp c453 hf
                                      refine lv_iconst (v := (0 : Int32)) hx hb dX8_home_263 (by decide) ?_
                                      refine lv_goto (tgt := 269) hx hb dX8_home_264 (by decide) ?_
                                      exact E452 _ hf H locs hP hD hS ls (lv_sub hl [0, 1, 2, 3, 4, 5, 6, 7, 9, 10] rfl)
                                    · have hf := ifn c453 hf
                                      refine lv_iconst (v := (1 : Int32)) hx hb dX8_home_259 (by decide) ?_
                                      refine lv_goto (tgt := 269) hx hb dX8_home_260 (by decide) ?_
                                      exact E452 _ hf H locs hP hD hS ls (lv_sub hl [0, 1, 2, 3, 4, 5, 6, 7, 9, 10] rfl)
                              have hf := h459
                              refine lv_if_lt (tgt := 236) hx hb dX8_home_228 (by decide) (fun c458 => ?_) (fun c458 => ?_)
                              · have hf := ifp c458 hf
                                refine lv_lload hx hb dX8_home_236 (lv_at hl 12 rfl) ?_
                                exact E457 _ hf H locs hP hD hS ls (lv_sub hl [0, 1, 2, 3, 4, 5, 6, 7, 8, 9, 10, 11, 12] rfl)
                              · have hf := ifn c458 hf
                                refine lv_lload hx hb dX8_home_231 (lv_at hl 11 rfl) ?_
                                refine lv_goto (tgt := 238) hx hb dX8_home_233 (by decide) ?_
                                exact E457 _ hf H locs hP hD hS ls (lv_sub hl [0, 1, 2, 3, 4, 5, 6, 7, 8, 9, 10, 11, 12] rfl)
                            have hf := h477
                            refine lv_if_le (tgt := 211) hx hb dX8_home_124 (by decide) (fun c461 => ?_) (fun c461 => ?_)
                            · have hf := ifp c461 hf
                              exact E460 _ hf H locs hP hD hS ls (lv_sub hl [2, 3, 4, 5, 6, 7, 8, 9, 10, 11, 12, 1, 0] rfl)
                            · have hf := ifn c461 hf
                              refine lv_iload hx hb dX8_home_127 (lv_at hl 12 rfl) ?_
                              obtain ⟨j463, h476, hf⟩ := bd1E hf
                              have E474 : ∀ (z464 : Int32), some z464 = some j463 → ∀ (H : Heap) (locs : List Loc), va_P D vwCl [(q_t, .inr (8, [.int t_there, .ref q_t_book, .ref q_t_now, .ref q_t_does, .ref q_t_bad, .ref q_t_likes, .int t_sights, .ref q_t_sight, .int t_signs, .ref q_t_pad, .ref q_t_then, .int t_worseAt, .int t_worseWho, .int t_hours, .ref q_t_ahead, .int t_reason, .int t_acts, .ref q_t_most, .ref q_t_worth, .ref q_t_damp, .ref q_t_next, .ref q_t_image, .ref q_t_isKept])), (q_t_worth, .inl (G 1, 100, .inr (.inl w381)))] H → va_D A [(q_t, .inr (8, [.int t_there, .ref q_t_book, .ref q_t_now, .ref q_t_does, .ref q_t_bad, .ref q_t_likes, .int t_sights, .ref q_t_sight, .int t_signs, .ref q_t_pad, .ref q_t_then, .int t_worseAt, .int t_worseWho, .int t_hours, .ref q_t_ahead, .int t_reason, .int t_acts, .ref q_t_most, .ref q_t_worth, .ref q_t_damp, .ref q_t_next, .ref q_t_image, .ref q_t_isKept])), (q_t_worth, .inl (G 1, 100, .inr (.inl w381)))] → va_S A s.heap H locs → ∀ ls : Array Slot, lv_has ls 18 [(0, .ref q_t), (1, .int v1), (2, .int v2), (3, .int v3), (4, .int v4), (5, .int v5), (6, .int v6), (7, .long y271), (9, .int w379), (10, .int w256), (11, .int w380), (12, .long y391)] → W p l e (kR 2 90) s m args below meth c H locs 0 0 Q (F0 m 140 ls [.int z464]) := by
                                intro z464 hy; obtain rfl := sm1 hy
                                intro H locs hP hD hS ls hl
                                refine lv_istore (lv' := [(16, .int z464), (0, .ref q_t), (1, .int v1), (2, .int v2), (3, .int v3), (4, .int v4), (5, .int v5), (6, .int v6), (7, .long y271), (9, .int w379), (10, .int w256), (11, .int w380), (12, .long y391)]) hx hb dX8_home_140 hl (by decide) rfl (fun ls hl => ?_)
                                refine lv_iload hx hb dX8_home_142 (lv_at hl 11 rfl) ?_
                                refine lv_bipush (v := (9 : Int32)) hx hb dX8_home_144 (by decide) ?_
                                obtain ⟨j466, h473, hf⟩ := bd1E hf
                                have E471 : ∀ (z467 : Int32), some z467 = some j466 → ∀ (H : Heap) (locs : List Loc), va_P D vwCl [(q_t, .inr (8, [.int t_there, .ref q_t_book, .ref q_t_now, .ref q_t_does, .ref q_t_bad, .ref q_t_likes, .int t_sights, .ref q_t_sight, .int t_signs, .ref q_t_pad, .ref q_t_then, .int t_worseAt, .int t_worseWho, .int t_hours, .ref q_t_ahead, .int t_reason, .int t_acts, .ref q_t_most, .ref q_t_worth, .ref q_t_damp, .ref q_t_next, .ref q_t_image, .ref q_t_isKept])), (q_t_worth, .inl (G 1, 100, .inr (.inl w381)))] H → va_D A [(q_t, .inr (8, [.int t_there, .ref q_t_book, .ref q_t_now, .ref q_t_does, .ref q_t_bad, .ref q_t_likes, .int t_sights, .ref q_t_sight, .int t_signs, .ref q_t_pad, .ref q_t_then, .int t_worseAt, .int t_worseWho, .int t_hours, .ref q_t_ahead, .int t_reason, .int t_acts, .ref q_t_most, .ref q_t_worth, .ref q_t_damp, .ref q_t_next, .ref q_t_image, .ref q_t_isKept])), (q_t_worth, .inl (G 1, 100, .inr (.inl w381)))] → va_S A s.heap H locs → ∀ ls : Array Slot, lv_has ls 18 [(0, .ref q_t), (1, .int v1), (2, .int v2), (3, .int v3), (4, .int v4), (5, .int v5), (6, .int v6), (7, .long y271), (9, .int w379), (10, .int w256), (11, .int w380), (12, .long y391), (16, .int z464)] → W p l e (kR 2 90) s m args below meth c H locs 0 0 Q (F0 m 158 ls [.int z467]) := by
                                  intro z467 hy; obtain rfl := sm1 hy
                                  intro H locs hP hD hS ls hl
                                  refine lv_istore (lv' := [(17, .int z467), (0, .ref q_t), (1, .int v1), (2, .int v2), (3, .int v3), (4, .int v4), (5, .int v5), (6, .int v6), (7, .long y271), (9, .int w379), (10, .int w256), (11, .int w380), (12, .long y391), (16, .int z464)]) hx hb dX8_home_158 hl (by decide) rfl (fun ls hl => ?_)
                                  refine lv_iload_n hx hb dX8_home_160 rfl (lv_at hl 4 rfl) ?_
                                  refine lv_i2l (v := (v3).toInt64) hx hb dX8_home_161 rfl ?_
                                  refine lv_aload_n hx hb dX8_home_162 rfl (lv_at hl 1 rfl) ?_
                                  refine va_get (D := D) (ci := 8) (v := .ref q_t_worth) (C := RX8) (T := TX8) (N := 23) hx hb hts inX8 hown hK hP 0 rfl rfl 18 (by decide) (hts _ lfX8_40) (fun _ h9 => h9) rfl dX8_home_163 ?_
                                  refine lv_bipush (v := (10 : Int32)) hx hb dX8_home_166 (by decide) ?_
                                  refine lv_iload hx hb dX8_home_168 (lv_at hl 10 rfl) ?_
                                  refine lv_imul hx hb dX8_home_170 ?_
                                  refine lv_bipush (v := (10 : Int32)) hx hb dX8_home_171 (by decide) ?_
                                  refine lv_isub hx hb dX8_home_173 ?_
                                  refine lv_iload hx hb dX8_home_174 (lv_at hl 13 rfl) ?_
                                  refine lv_iadd hx hb dX8_home_176 ?_
                                  obtain ⟨x468, ex468, ix468, hf⟩ := ldLE hf
                                  refine k_lald hx hb hK hP 1 1 rfl rfl ix468 ex468 dX8_home_177 ?_
                                  refine lv_lmul hx hb dX8_home_178 ?_
                                  refine lv_bipush (v := (10 : Int32)) hx hb dX8_home_179 (by decide) ?_
                                  refine lv_iload_n hx hb dX8_home_181 rfl (lv_at hl 4 rfl) ?_
                                  refine lv_isub hx hb dX8_home_182 ?_
                                  refine lv_i2l (v := (((10 : Int32) - v3)).toInt64) hx hb dX8_home_183 rfl ?_
                                  refine lv_aload_n hx hb dX8_home_184 rfl (lv_at hl 1 rfl) ?_
                                  refine va_get (D := D) (ci := 8) (v := .ref q_t_worth) (C := RX8) (T := TX8) (N := 23) hx hb hts inX8 hown hK hP 0 rfl rfl 18 (by decide) (hts _ lfX8_40) (fun _ h9 => h9) rfl dX8_home_185 ?_
                                  refine lv_bipush (v := (10 : Int32)) hx hb dX8_home_188 (by decide) ?_
                                  refine lv_iload hx hb dX8_home_190 (lv_at hl 10 rfl) ?_
                                  refine lv_imul hx hb dX8_home_192 ?_
                                  refine lv_bipush (v := (10 : Int32)) hx hb dX8_home_193 (by decide) ?_
                                  refine lv_isub hx hb dX8_home_195 ?_
                                  refine lv_iload hx hb dX8_home_196 (lv_at hl 0 rfl) ?_
                                  refine lv_iadd hx hb dX8_home_198 ?_
                                  obtain ⟨x469, ex469, ix469, hf⟩ := ldLE hf
                                  refine k_lald hx hb hK hP 1 1 rfl rfl ix469 ex469 dX8_home_199 ?_
                                  refine lv_lmul hx hb dX8_home_200 ?_
                                  refine lv_ladd hx hb dX8_home_201 ?_
                                  refine lv_iload hx hb dX8_home_202 (lv_at hl 5 rfl) ?_
                                  refine lv_i2l (v := (v4).toInt64) hx hb dX8_home_204 rfl ?_
                                  refine lv_lload hx hb dX8_home_205 (lv_at hl 8 rfl) ?_
                                  refine lv_lmul hx hb dX8_home_207 ?_
                                  refine lv_lsub hx hb dX8_home_208 ?_
                                  refine lv_topl (fun y470 ey470 => ?_)
                                  have hf := nmeU ey470 hf
                                  refine lv_lstore (lv' := [(14, .long y470), (17, .int z467), (0, .ref q_t), (1, .int v1), (2, .int v2), (3, .int v3), (4, .int v4), (5, .int v5), (6, .int v6), (7, .long y271), (9, .int w379), (10, .int w256), (11, .int w380), (12, .long y391), (16, .int z464)]) hx hb dX8_home_209 hl (by decide) rfl (fun ls hl => ?_)
                                  exact E460 _ hf H locs hP hD hS ls (lv_sub hl [2, 3, 4, 5, 6, 7, 8, 9, 10, 11, 12, 13, 0] rfl)
                                have hf := h473
                                refine lv_icmp_ne (tgt := 154) hx hb dX8_home_146 (by decide) (fun c472 => ?_) (fun c472 => ?_)
                                · have hf := ifn c472 hf
                                  refine lv_iload hx hb dX8_home_154 (lv_at hl 11 rfl) ?_
                                  refine lv_iconst (v := (1 : Int32)) hx hb dX8_home_156 (by decide) ?_
                                  refine lv_iadd hx hb dX8_home_157 ?_
                                  exact E471 _ hf H locs hP hD hS ls (lv_sub hl [1, 2, 3, 4, 5, 6, 7, 8, 9, 10, 11, 12, 0] rfl)
                                · have hf := ifp c472 hf
                                  refine lv_bipush (v := (9 : Int32)) hx hb dX8_home_149 (by decide) ?_
                                  refine lv_goto (tgt := 158) hx hb dX8_home_151 (by decide) ?_
                                  exact E471 _ hf H locs hP hD hS ls (lv_sub hl [1, 2, 3, 4, 5, 6, 7, 8, 9, 10, 11, 12, 0] rfl)
                              have hf := h476
                              refine lv_if_ne (tgt := 136) hx hb dX8_home_129 (by decide) (fun c475 => ?_) (fun c475 => ?_)
                              · have hf := ifn c475 hf
                                refine lv_iload hx hb dX8_home_136 (lv_at hl 12 rfl) ?_
                                refine lv_iconst (v := (1 : Int32)) hx hb dX8_home_138 (by decide) ?_
                                refine lv_isub hx hb dX8_home_139 ?_
                                exact E474 _ hf H locs hP hD hS ls (lv_sub hl [2, 3, 4, 5, 6, 7, 8, 9, 10, 11, 12, 1] rfl)
                              · have hf := ifp c475 hf
                                refine lv_iconst (v := (0 : Int32)) hx hb dX8_home_132 (by decide) ?_
                                refine lv_goto (tgt := 140) hx hb dX8_home_133 (by decide) ?_
                                exact E474 _ hf H locs hP hD hS ls (lv_sub hl [2, 3, 4, 5, 6, 7, 8, 9, 10, 11, 12, 1] rfl)
                      exact L385 fu w255 (0 : Int32) w257 h387 H locs hP hD hS ls (lv_sub hl [2, 3, 4, 5, 6, 7, 8, 1, 9, 10, 0] rfl)
                    have hf := h483
                    refine lv_if_ne (tgt := 91) hx hb dX8_home_84 (by decide) (fun c482 => ?_) (fun c482 => ?_)
                    · have hf := ifn c482 hf
                      refine lv_ldc2 (v := (10 : Int64)) hx hb hown (hts _ lcX8_158) dX8_home_91 ?_
                      exact E481 _ hf H locs hP hD hS ls (lv_sub hl [0, 1, 2, 3, 4, 5, 6, 8, 9] rfl)
                    · have hf := ifp c482 hf
                      refine lv_lconst (v := (1 : Int64)) hx hb dX8_home_87 (by decide) ?_
                      refine lv_goto (tgt := 94) hx hb dX8_home_88 (by decide) ?_
                      exact E481 _ hf H locs hP hD hS ls (lv_sub hl [0, 1, 2, 3, 4, 5, 6, 8, 9] rfl)
              exact L262 fu (1 : Int64) (1 : Int32) (0 : Int32) t_worth h264 H locs hP hD hS ls (lv_sub hl [3, 4, 5, 6, 7, 8, 9, 2, 1, 0] rfl)
            · have hf := ifp c18 hf
              refine lv_ldc2 (v := (-1000000000000000002 : Int64)) hx hb hown (hts _ lcX8_156) dX8_home_61 ?_
              exact RT _ _ hf _ _ _ H locs dX8_home_64 (rkL _) hP hD hS
set_option maxHeartbeats 4000000 in
set_option maxRecDepth 100000 in
theorem kX8_image (l : Launch) (D : va_G) (G : Nat → ClassId) (fu : Nat) (q_t q_t_book q_t_now q_t_does q_t_bad q_t_likes q_t_sight q_t_pad q_t_then q_t_ahead q_t_most q_t_worth q_t_damp q_t_next q_t_image q_t_isKept : Nat) (t_there : Int32) (t_sights : Int32) (t_signs : Int32) (t_worseAt : Int32) (t_worseWho : Int32) (t_hours : Int32) (t_reason : Int32) (t_acts : Int32) (t_book : Nat → Int32) (t_does : Nat → Int32) (t_bad : Nat → Int32) (t_likes : Nat → Int32) (t_sight : Nat → Int32) (t_image : Nat → Int32) (t_isKept : Nat → Int32) (v1 : Int32) {r : Int32} {o_t_image : Nat → Int32} {o_t_isKept : Nat → Int32} (hf : fX8_image fu t_there t_sights t_book t_does t_bad t_likes t_sight t_image t_isKept v1 = some (r, o_t_image, o_t_isKept)) : rW l D G yX8_image cX8_image 4 (some .int) 2 82 [.ref q_t, .int v1] [(q_t, .inr (8, [.int t_there, .ref q_t_book, .ref q_t_now, .ref q_t_does, .ref q_t_bad, .ref q_t_likes, .int t_sights, .ref q_t_sight, .int t_signs, .ref q_t_pad, .ref q_t_then, .int t_worseAt, .int t_worseWho, .int t_hours, .ref q_t_ahead, .int t_reason, .int t_acts, .ref q_t_most, .ref q_t_worth, .ref q_t_damp, .ref q_t_next, .ref q_t_image, .ref q_t_isKept])), (q_t_book, .inl (G 0, 26, .inl t_book)), (q_t_does, .inl (G 0, 12, .inl t_does)), (q_t_bad, .inl (G 0, 36, .inl t_bad)), (q_t_likes, .inl (G 0, 6, .inl t_likes)), (q_t_sight, .inl (G 0, 24, .inl t_sight)), (q_t_image, .inl (G 0, 240, .inl t_image)), (q_t_isKept, .inl (G 2, 2, .inl t_isKept))] [(q_t, .inr (8, [.int t_there, .ref q_t_book, .ref q_t_now, .ref q_t_does, .ref q_t_bad, .ref q_t_likes, .int t_sights, .ref q_t_sight, .int t_signs, .ref q_t_pad, .ref q_t_then, .int t_worseAt, .int t_worseWho, .int t_hours, .ref q_t_ahead, .int t_reason, .int t_acts, .ref q_t_most, .ref q_t_worth, .ref q_t_damp, .ref q_t_next, .ref q_t_image, .ref q_t_isKept])), (q_t_book, .inl (G 0, 26, .inl t_book)), (q_t_does, .inl (G 0, 12, .inl t_does)), (q_t_bad, .inl (G 0, 36, .inl t_bad)), (q_t_likes, .inl (G 0, 6, .inl t_likes)), (q_t_sight, .inl (G 0, 24, .inl t_sight)), (q_t_image, .inl (G 0, 240, .inl o_t_image)), (q_t_isKept, .inl (G 2, 2, .inl o_t_isKept))] (some (.int r)) := by
  refine rW_of (by decide) (Nat.le_of_ble_eq_true rfl) ?_
  intro p e s m args below meth c Q A hx hb hml hown hts hK hn hA RET H locs hP hD hS ls hl
  have RT : ∀ (a0_ : Int32) (a1_ : Nat → Int32) (a2_ : Nat → Int32), some (a0_, a1_, a2_) = some (r, o_t_image, o_t_isKept) → ∀ (pc : Nat) (ls : Array Slot) (ins : Instr) (H : Heap) (locs : List Loc), decode cX8_image pc = .ok (ins, 1) → rk (some .int) (some (.int a0_)) ins → va_P D vwCl [(q_t, .inr (8, [.int t_there, .ref q_t_book, .ref q_t_now, .ref q_t_does, .ref q_t_bad, .ref q_t_likes, .int t_sights, .ref q_t_sight, .int t_signs, .ref q_t_pad, .ref q_t_then, .int t_worseAt, .int t_worseWho, .int t_hours, .ref q_t_ahead, .int t_reason, .int t_acts, .ref q_t_most, .ref q_t_worth, .ref q_t_damp, .ref q_t_next, .ref q_t_image, .ref q_t_isKept])), (q_t_book, .inl (G 0, 26, .inl t_book)), (q_t_does, .inl (G 0, 12, .inl t_does)), (q_t_bad, .inl (G 0, 36, .inl t_bad)), (q_t_likes, .inl (G 0, 6, .inl t_likes)), (q_t_sight, .inl (G 0, 24, .inl t_sight)), (q_t_image, .inl (G 0, 240, .inl a1_)), (q_t_isKept, .inl (G 2, 2, .inl a2_))] H → va_D A [(q_t, .inr (8, [.int t_there, .ref q_t_book, .ref q_t_now, .ref q_t_does, .ref q_t_bad, .ref q_t_likes, .int t_sights, .ref q_t_sight, .int t_signs, .ref q_t_pad, .ref q_t_then, .int t_worseAt, .int t_worseWho, .int t_hours, .ref q_t_ahead, .int t_reason, .int t_acts, .ref q_t_most, .ref q_t_worth, .ref q_t_damp, .ref q_t_next, .ref q_t_image, .ref q_t_isKept])), (q_t_book, .inl (G 0, 26, .inl t_book)), (q_t_does, .inl (G 0, 12, .inl t_does)), (q_t_bad, .inl (G 0, 36, .inl t_bad)), (q_t_likes, .inl (G 0, 6, .inl t_likes)), (q_t_sight, .inl (G 0, 24, .inl t_sight)), (q_t_image, .inl (G 0, 240, .inl a1_)), (q_t_isKept, .inl (G 2, 2, .inl a2_))] → va_S A s.heap H locs → W p l e (kR 2 82) s m args below meth c H locs 0 0 Q (F0 m pc ls [.int a0_]) := by
    intro a0_ a1_ a2_ hy; obtain ⟨rfl, rfl, rfl⟩ := sm3 hy
    exact RET
  have hown : s.vm.findClass RX8 = some m.cls := hown
  have hl : lv_has ls 4 [(0, .ref q_t), (1, .int v1)] := hl
  clear RET
  rw [fX8_image] at hf
  refine lv_iload_n hx hb dX8_image_0 rfl (lv_at hl 1 rfl) ?_
  refine lv_iconst (v := (0 : Int32)) hx hb dX8_image_1 (by decide) ?_
  refine lv_iconst (v := (1 : Int32)) hx hb dX8_image_2 (by decide) ?_
  obtain ⟨r1, h2, hf⟩ := bd1E hf
  refine kO_stat hx hb hml hown hts hK hn hP (kX8_in l D G v1 (0 : Int32) (1 : Int32) h2) csX8_61 ⟨Nat.le_of_ble_eq_true rfl, Nat.le_of_ble_eq_true rfl⟩ [] rfl rfl hl.1 rfl (Nat.le_of_ble_eq_true rfl) ⟨Nat.zero_le _, Nat.zero_le _⟩ dX8_image_3 ?_
  refine lv_if_ne (tgt := 12) hx hb dX8_image_6 (by decide) (fun c3 => ?_) (fun c3 => ?_)
  · have hf := ifn c3 hf
    refine lv_bipush (v := (120 : Int32)) hx hb dX8_image_12 (by decide) ?_
    refine lv_iload_n hx hb dX8_image_14 rfl (lv_at hl 1 rfl) ?_
    refine lv_imul hx hb dX8_image_15 ?_
    refine lv_topi (fun y4 ey4 => ?_)
    have hf := nmeU ey4 hf
    refine lv_istore_n (lv' := [(2, .int y4), (0, .ref q_t), (1, .int v1)]) hx hb dX8_image_16 rfl hl (by decide) rfl (fun ls hl => ?_)
    refine lv_iconst (v := (0 : Int32)) hx hb dX8_image_17 (by decide) ?_
    refine lv_istore_n (lv' := [(3, .int (0 : Int32)), (2, .int y4), (0, .ref q_t), (1, .int v1)]) hx hb dX8_image_18 rfl hl (by decide) rfl (fun ls hl => ?_)
    obtain ⟨u29, h33, hf⟩ := bd1E hf
    have E30 : ∀ (z40 : Nat → Int32), some z40 = some u29 → ∀ (H : Heap) (locs : List Loc), va_P D vwCl [(q_t, .inr (8, [.int t_there, .ref q_t_book, .ref q_t_now, .ref q_t_does, .ref q_t_bad, .ref q_t_likes, .int t_sights, .ref q_t_sight, .int t_signs, .ref q_t_pad, .ref q_t_then, .int t_worseAt, .int t_worseWho, .int t_hours, .ref q_t_ahead, .int t_reason, .int t_acts, .ref q_t_most, .ref q_t_worth, .ref q_t_damp, .ref q_t_next, .ref q_t_image, .ref q_t_isKept])), (q_t_book, .inl (G 0, 26, .inl t_book)), (q_t_does, .inl (G 0, 12, .inl t_does)), (q_t_bad, .inl (G 0, 36, .inl t_bad)), (q_t_likes, .inl (G 0, 6, .inl t_likes)), (q_t_sight, .inl (G 0, 24, .inl t_sight)), (q_t_image, .inl (G 0, 240, .inl z40)), (q_t_isKept, .inl (G 2, 2, .inl t_isKept))] H → va_D A [(q_t, .inr (8, [.int t_there, .ref q_t_book, .ref q_t_now, .ref q_t_does, .ref q_t_bad, .ref q_t_likes, .int t_sights, .ref q_t_sight, .int t_signs, .ref q_t_pad, .ref q_t_then, .int t_worseAt, .int t_worseWho, .int t_hours, .ref q_t_ahead, .int t_reason, .int t_acts, .ref q_t_most, .ref q_t_worth, .ref q_t_damp, .ref q_t_next, .ref q_t_image, .ref q_t_isKept])), (q_t_book, .inl (G 0, 26, .inl t_book)), (q_t_does, .inl (G 0, 12, .inl t_does)), (q_t_bad, .inl (G 0, 36, .inl t_bad)), (q_t_likes, .inl (G 0, 6, .inl t_likes)), (q_t_sight, .inl (G 0, 24, .inl t_sight)), (q_t_image, .inl (G 0, 240, .inl z40)), (q_t_isKept, .inl (G 2, 2, .inl t_isKept))] → va_S A s.heap H locs → ∀ ls : Array Slot, lv_has ls 4 [(0, .ref q_t), (1, .int v1), (2, .int y4)] → W p l e (kR 2 82) s m args below meth c H locs 0 0 Q (F0 m 45 ls []) := by
      intro z40 hy; obtain rfl := sm1 hy
      intro H locs hP hD hS ls hl
      refine lv_iconst (v := (0 : Int32)) hx hb dX8_image_45 (by decide) ?_
      refine lv_istore_n (lv' := [(3, .int (0 : Int32)), (0, .ref q_t), (1, .int v1), (2, .int y4)]) hx hb dX8_image_46 rfl hl (by decide) rfl (fun ls hl => ?_)
      obtain ⟨u65, h69, hf⟩ := bd1E hf
      have E66 : ∀ (z76 : Nat → Int32), some z76 = some u65 → ∀ (H : Heap) (locs : List Loc), va_P D vwCl [(q_t, .inr (8, [.int t_there, .ref q_t_book, .ref q_t_now, .ref q_t_does, .ref q_t_bad, .ref q_t_likes, .int t_sights, .ref q_t_sight, .int t_signs, .ref q_t_pad, .ref q_t_then, .int t_worseAt, .int t_worseWho, .int t_hours, .ref q_t_ahead, .int t_reason, .int t_acts, .ref q_t_most, .ref q_t_worth, .ref q_t_damp, .ref q_t_next, .ref q_t_image, .ref q_t_isKept])), (q_t_book, .inl (G 0, 26, .inl t_book)), (q_t_does, .inl (G 0, 12, .inl t_does)), (q_t_bad, .inl (G 0, 36, .inl t_bad)), (q_t_likes, .inl (G 0, 6, .inl t_likes)), (q_t_sight, .inl (G 0, 24, .inl t_sight)), (q_t_image, .inl (G 0, 240, .inl z76)), (q_t_isKept, .inl (G 2, 2, .inl t_isKept))] H → va_D A [(q_t, .inr (8, [.int t_there, .ref q_t_book, .ref q_t_now, .ref q_t_does, .ref q_t_bad, .ref q_t_likes, .int t_sights, .ref q_t_sight, .int t_signs, .ref q_t_pad, .ref q_t_then, .int t_worseAt, .int t_worseWho, .int t_hours, .ref q_t_ahead, .int t_reason, .int t_acts, .ref q_t_most, .ref q_t_worth, .ref q_t_damp, .ref q_t_next, .ref q_t_image, .ref q_t_isKept])), (q_t_book, .inl (G 0, 26, .inl t_book)), (q_t_does, .inl (G 0, 12, .inl t_does)), (q_t_bad, .inl (G 0, 36, .inl t_bad)), (q_t_likes, .inl (G 0, 6, .inl t_likes)), (q_t_sight, .inl (G 0, 24, .inl t_sight)), (q_t_image, .inl (G 0, 240, .inl z76)), (q_t_isKept, .inl (G 2, 2, .inl t_isKept))] → va_S A s.heap H locs → ∀ ls : Array Slot, lv_has ls 4 [(0, .ref q_t), (1, .int v1), (2, .int y4)] → W p l e (kR 2 82) s m args below meth c H locs 0 0 Q (F0 m 76 ls []) := by
        intro z76 hy; obtain rfl := sm1 hy
        intro H locs hP hD hS ls hl
        refine lv_iconst (v := (0 : Int32)) hx hb dX8_image_76 (by decide) ?_
        refine lv_istore_n (lv' := [(3, .int (0 : Int32)), (0, .ref q_t), (1, .int v1), (2, .int y4)]) hx hb dX8_image_77 rfl hl (by decide) rfl (fun ls hl => ?_)
        obtain ⟨u101, h105, hf⟩ := bd1E hf
        have E102 : ∀ (z112 : Nat → Int32), some z112 = some u101 → ∀ (H : Heap) (locs : List Loc), va_P D vwCl [(q_t, .inr (8, [.int t_there, .ref q_t_book, .ref q_t_now, .ref q_t_does, .ref q_t_bad, .ref q_t_likes, .int t_sights, .ref q_t_sight, .int t_signs, .ref q_t_pad, .ref q_t_then, .int t_worseAt, .int t_worseWho, .int t_hours, .ref q_t_ahead, .int t_reason, .int t_acts, .ref q_t_most, .ref q_t_worth, .ref q_t_damp, .ref q_t_next, .ref q_t_image, .ref q_t_isKept])), (q_t_book, .inl (G 0, 26, .inl t_book)), (q_t_does, .inl (G 0, 12, .inl t_does)), (q_t_bad, .inl (G 0, 36, .inl t_bad)), (q_t_likes, .inl (G 0, 6, .inl t_likes)), (q_t_sight, .inl (G 0, 24, .inl t_sight)), (q_t_image, .inl (G 0, 240, .inl z112)), (q_t_isKept, .inl (G 2, 2, .inl t_isKept))] H → va_D A [(q_t, .inr (8, [.int t_there, .ref q_t_book, .ref q_t_now, .ref q_t_does, .ref q_t_bad, .ref q_t_likes, .int t_sights, .ref q_t_sight, .int t_signs, .ref q_t_pad, .ref q_t_then, .int t_worseAt, .int t_worseWho, .int t_hours, .ref q_t_ahead, .int t_reason, .int t_acts, .ref q_t_most, .ref q_t_worth, .ref q_t_damp, .ref q_t_next, .ref q_t_image, .ref q_t_isKept])), (q_t_book, .inl (G 0, 26, .inl t_book)), (q_t_does, .inl (G 0, 12, .inl t_does)), (q_t_bad, .inl (G 0, 36, .inl t_bad)), (q_t_likes, .inl (G 0, 6, .inl t_likes)), (q_t_sight, .inl (G 0, 24, .inl t_sight)), (q_t_image, .inl (G 0, 240, .inl z112)), (q_t_isKept, .inl (G 2, 2, .inl t_isKept))] → va_S A s.heap H locs → ∀ ls : Array Slot, lv_has ls 4 [(0, .ref q_t), (1, .int v1), (2, .int y4)] → W p l e (kR 2 82) s m args below meth c H locs 0 0 Q (F0 m 107 ls []) := by
          intro z112 hy; obtain rfl := sm1 hy
          intro H locs hP hD hS ls hl
          refine lv_iconst (v := (0 : Int32)) hx hb dX8_image_107 (by decide) ?_
          refine lv_istore_n (lv' := [(3, .int (0 : Int32)), (0, .ref q_t), (1, .int v1), (2, .int y4)]) hx hb dX8_image_108 rfl hl (by decide) rfl (fun ls hl => ?_)
          obtain ⟨u137, h141, hf⟩ := bd1E hf
          have E138 : ∀ (z148 : Nat → Int32), some z148 = some u137 → ∀ (H : Heap) (locs : List Loc), va_P D vwCl [(q_t, .inr (8, [.int t_there, .ref q_t_book, .ref q_t_now, .ref q_t_does, .ref q_t_bad, .ref q_t_likes, .int t_sights, .ref q_t_sight, .int t_signs, .ref q_t_pad, .ref q_t_then, .int t_worseAt, .int t_worseWho, .int t_hours, .ref q_t_ahead, .int t_reason, .int t_acts, .ref q_t_most, .ref q_t_worth, .ref q_t_damp, .ref q_t_next, .ref q_t_image, .ref q_t_isKept])), (q_t_book, .inl (G 0, 26, .inl t_book)), (q_t_does, .inl (G 0, 12, .inl t_does)), (q_t_bad, .inl (G 0, 36, .inl t_bad)), (q_t_likes, .inl (G 0, 6, .inl t_likes)), (q_t_sight, .inl (G 0, 24, .inl t_sight)), (q_t_image, .inl (G 0, 240, .inl z148)), (q_t_isKept, .inl (G 2, 2, .inl t_isKept))] H → va_D A [(q_t, .inr (8, [.int t_there, .ref q_t_book, .ref q_t_now, .ref q_t_does, .ref q_t_bad, .ref q_t_likes, .int t_sights, .ref q_t_sight, .int t_signs, .ref q_t_pad, .ref q_t_then, .int t_worseAt, .int t_worseWho, .int t_hours, .ref q_t_ahead, .int t_reason, .int t_acts, .ref q_t_most, .ref q_t_worth, .ref q_t_damp, .ref q_t_next, .ref q_t_image, .ref q_t_isKept])), (q_t_book, .inl (G 0, 26, .inl t_book)), (q_t_does, .inl (G 0, 12, .inl t_does)), (q_t_bad, .inl (G 0, 36, .inl t_bad)), (q_t_likes, .inl (G 0, 6, .inl t_likes)), (q_t_sight, .inl (G 0, 24, .inl t_sight)), (q_t_image, .inl (G 0, 240, .inl z148)), (q_t_isKept, .inl (G 2, 2, .inl t_isKept))] → va_S A s.heap H locs → ∀ ls : Array Slot, lv_has ls 4 [(0, .ref q_t), (1, .int v1), (2, .int y4)] → W p l e (kR 2 82) s m args below meth c H locs 0 0 Q (F0 m 138 ls []) := by
            intro z148 hy; obtain rfl := sm1 hy
            intro H locs hP hD hS ls hl
            refine lv_iconst (v := (0 : Int32)) hx hb dX8_image_138 (by decide) ?_
            refine lv_istore_n (lv' := [(3, .int (0 : Int32)), (0, .ref q_t), (1, .int v1), (2, .int y4)]) hx hb dX8_image_139 rfl hl (by decide) rfl (fun ls hl => ?_)
            obtain ⟨u173, h177, hf⟩ := bd1E hf
            have E174 : ∀ (z184 : Nat → Int32), some z184 = some u173 → ∀ (H : Heap) (locs : List Loc), va_P D vwCl [(q_t, .inr (8, [.int t_there, .ref q_t_book, .ref q_t_now, .ref q_t_does, .ref q_t_bad, .ref q_t_likes, .int t_sights, .ref q_t_sight, .int t_signs, .ref q_t_pad, .ref q_t_then, .int t_worseAt, .int t_worseWho, .int t_hours, .ref q_t_ahead, .int t_reason, .int t_acts, .ref q_t_most, .ref q_t_worth, .ref q_t_damp, .ref q_t_next, .ref q_t_image, .ref q_t_isKept])), (q_t_book, .inl (G 0, 26, .inl t_book)), (q_t_does, .inl (G 0, 12, .inl t_does)), (q_t_bad, .inl (G 0, 36, .inl t_bad)), (q_t_likes, .inl (G 0, 6, .inl t_likes)), (q_t_sight, .inl (G 0, 24, .inl t_sight)), (q_t_image, .inl (G 0, 240, .inl z184)), (q_t_isKept, .inl (G 2, 2, .inl t_isKept))] H → va_D A [(q_t, .inr (8, [.int t_there, .ref q_t_book, .ref q_t_now, .ref q_t_does, .ref q_t_bad, .ref q_t_likes, .int t_sights, .ref q_t_sight, .int t_signs, .ref q_t_pad, .ref q_t_then, .int t_worseAt, .int t_worseWho, .int t_hours, .ref q_t_ahead, .int t_reason, .int t_acts, .ref q_t_most, .ref q_t_worth, .ref q_t_damp, .ref q_t_next, .ref q_t_image, .ref q_t_isKept])), (q_t_book, .inl (G 0, 26, .inl t_book)), (q_t_does, .inl (G 0, 12, .inl t_does)), (q_t_bad, .inl (G 0, 36, .inl t_bad)), (q_t_likes, .inl (G 0, 6, .inl t_likes)), (q_t_sight, .inl (G 0, 24, .inl t_sight)), (q_t_image, .inl (G 0, 240, .inl z184)), (q_t_isKept, .inl (G 2, 2, .inl t_isKept))] → va_S A s.heap H locs → ∀ ls : Array Slot, lv_has ls 4 [(0, .ref q_t), (1, .int v1), (2, .int y4)] → W p l e (kR 2 82) s m args below meth c H locs 0 0 Q (F0 m 169 ls []) := by
              intro z184 hy; obtain rfl := sm1 hy
              intro H locs hP hD hS ls hl
              refine lv_aload_n hx hb dX8_image_169 rfl (lv_at hl 0 rfl) ?_
              refine va_get (D := D) (ci := 8) (v := .ref q_t_image) (C := RX8) (T := TX8) (N := 23) hx hb hts inX8 hown hK hP 0 rfl rfl 21 (by decide) (hts _ lfX8_50) (fun _ h9 => h9) rfl dX8_image_170 ?_
              refine lv_iload_n hx hb dX8_image_173 rfl (lv_at hl 2 rfl) ?_
              refine lv_bipush (v := (110 : Int32)) hx hb dX8_image_174 (by decide) ?_
              refine lv_iadd hx hb dX8_image_176 ?_
              refine lv_aload_n hx hb dX8_image_177 rfl (lv_at hl 0 rfl) ?_
              refine va_get (D := D) (ci := 8) (v := .int t_there) (C := RX8) (T := TX8) (N := 23) hx hb hts inX8 hown hK hP 0 rfl rfl 0 (by decide) (hts _ lfX8_57) (fun _ h9 => h9) rfl dX8_image_178 ?_
              obtain ⟨g185, eg185, ig185, hf⟩ := stIE hf
              refine k_iast hx hb hK hP hD hS 6 0 rfl rfl ig185 eg185 dX8_image_181 (fun H locs hP hD hS => ?_)
              have hP : va_P D vwCl [(q_t, .inr (8, [.int t_there, .ref q_t_book, .ref q_t_now, .ref q_t_does, .ref q_t_bad, .ref q_t_likes, .int t_sights, .ref q_t_sight, .int t_signs, .ref q_t_pad, .ref q_t_then, .int t_worseAt, .int t_worseWho, .int t_hours, .ref q_t_ahead, .int t_reason, .int t_acts, .ref q_t_most, .ref q_t_worth, .ref q_t_damp, .ref q_t_next, .ref q_t_image, .ref q_t_isKept])), (q_t_book, .inl (G 0, 26, .inl t_book)), (q_t_does, .inl (G 0, 12, .inl t_does)), (q_t_bad, .inl (G 0, 36, .inl t_bad)), (q_t_likes, .inl (G 0, 6, .inl t_likes)), (q_t_sight, .inl (G 0, 24, .inl t_sight)), (q_t_image, .inl (G 0, 240, .inl g185)), (q_t_isKept, .inl (G 2, 2, .inl t_isKept))] H := hP
              have hD : va_D A [(q_t, .inr (8, [.int t_there, .ref q_t_book, .ref q_t_now, .ref q_t_does, .ref q_t_bad, .ref q_t_likes, .int t_sights, .ref q_t_sight, .int t_signs, .ref q_t_pad, .ref q_t_then, .int t_worseAt, .int t_worseWho, .int t_hours, .ref q_t_ahead, .int t_reason, .int t_acts, .ref q_t_most, .ref q_t_worth, .ref q_t_damp, .ref q_t_next, .ref q_t_image, .ref q_t_isKept])), (q_t_book, .inl (G 0, 26, .inl t_book)), (q_t_does, .inl (G 0, 12, .inl t_does)), (q_t_bad, .inl (G 0, 36, .inl t_bad)), (q_t_likes, .inl (G 0, 6, .inl t_likes)), (q_t_sight, .inl (G 0, 24, .inl t_sight)), (q_t_image, .inl (G 0, 240, .inl g185)), (q_t_isKept, .inl (G 2, 2, .inl t_isKept))] := hD
              refine lv_aload_n hx hb dX8_image_182 rfl (lv_at hl 0 rfl) ?_
              refine va_get (D := D) (ci := 8) (v := .ref q_t_image) (C := RX8) (T := TX8) (N := 23) hx hb hts inX8 hown hK hP 0 rfl rfl 21 (by decide) (hts _ lfX8_50) (fun _ h9 => h9) rfl dX8_image_183 ?_
              refine lv_iload_n hx hb dX8_image_186 rfl (lv_at hl 2 rfl) ?_
              refine lv_bipush (v := (111 : Int32)) hx hb dX8_image_187 (by decide) ?_
              refine lv_iadd hx hb dX8_image_189 ?_
              refine lv_aload_n hx hb dX8_image_190 rfl (lv_at hl 0 rfl) ?_
              refine va_get (D := D) (ci := 8) (v := .int t_sights) (C := RX8) (T := TX8) (N := 23) hx hb hts inX8 hown hK hP 0 rfl rfl 6 (by decide) (hts _ lfX8_150) (fun _ h9 => h9) rfl dX8_image_191 ?_
              obtain ⟨g186, eg186, ig186, hf⟩ := stIE hf
              refine k_iast hx hb hK hP hD hS 6 0 rfl rfl ig186 eg186 dX8_image_194 (fun H locs hP hD hS => ?_)
              have hP : va_P D vwCl [(q_t, .inr (8, [.int t_there, .ref q_t_book, .ref q_t_now, .ref q_t_does, .ref q_t_bad, .ref q_t_likes, .int t_sights, .ref q_t_sight, .int t_signs, .ref q_t_pad, .ref q_t_then, .int t_worseAt, .int t_worseWho, .int t_hours, .ref q_t_ahead, .int t_reason, .int t_acts, .ref q_t_most, .ref q_t_worth, .ref q_t_damp, .ref q_t_next, .ref q_t_image, .ref q_t_isKept])), (q_t_book, .inl (G 0, 26, .inl t_book)), (q_t_does, .inl (G 0, 12, .inl t_does)), (q_t_bad, .inl (G 0, 36, .inl t_bad)), (q_t_likes, .inl (G 0, 6, .inl t_likes)), (q_t_sight, .inl (G 0, 24, .inl t_sight)), (q_t_image, .inl (G 0, 240, .inl g186)), (q_t_isKept, .inl (G 2, 2, .inl t_isKept))] H := hP
              have hD : va_D A [(q_t, .inr (8, [.int t_there, .ref q_t_book, .ref q_t_now, .ref q_t_does, .ref q_t_bad, .ref q_t_likes, .int t_sights, .ref q_t_sight, .int t_signs, .ref q_t_pad, .ref q_t_then, .int t_worseAt, .int t_worseWho, .int t_hours, .ref q_t_ahead, .int t_reason, .int t_acts, .ref q_t_most, .ref q_t_worth, .ref q_t_damp, .ref q_t_next, .ref q_t_image, .ref q_t_isKept])), (q_t_book, .inl (G 0, 26, .inl t_book)), (q_t_does, .inl (G 0, 12, .inl t_does)), (q_t_bad, .inl (G 0, 36, .inl t_bad)), (q_t_likes, .inl (G 0, 6, .inl t_likes)), (q_t_sight, .inl (G 0, 24, .inl t_sight)), (q_t_image, .inl (G 0, 240, .inl g186)), (q_t_isKept, .inl (G 2, 2, .inl t_isKept))] := hD
              refine lv_aload_n hx hb dX8_image_195 rfl (lv_at hl 0 rfl) ?_
              refine va_get (D := D) (ci := 8) (v := .ref q_t_isKept) (C := RX8) (T := TX8) (N := 23) hx hb hts inX8 hown hK hP 0 rfl rfl 22 (by decide) (hts _ lfX8_53) (fun _ h9 => h9) rfl dX8_image_196 ?_
              refine lv_iload_n hx hb dX8_image_199 rfl (lv_at hl 1 rfl) ?_
              refine lv_iconst (v := (1 : Int32)) hx hb dX8_image_200 (by decide) ?_
              obtain ⟨g187, eg187, ig187, hf⟩ := stIE hf
              refine k_zast hx hb hK hP hD hS 7 2 rfl rfl ig187 eg187 dX8_image_201 (fun H locs hP hD hS => ?_)
              have hP : va_P D vwCl [(q_t, .inr (8, [.int t_there, .ref q_t_book, .ref q_t_now, .ref q_t_does, .ref q_t_bad, .ref q_t_likes, .int t_sights, .ref q_t_sight, .int t_signs, .ref q_t_pad, .ref q_t_then, .int t_worseAt, .int t_worseWho, .int t_hours, .ref q_t_ahead, .int t_reason, .int t_acts, .ref q_t_most, .ref q_t_worth, .ref q_t_damp, .ref q_t_next, .ref q_t_image, .ref q_t_isKept])), (q_t_book, .inl (G 0, 26, .inl t_book)), (q_t_does, .inl (G 0, 12, .inl t_does)), (q_t_bad, .inl (G 0, 36, .inl t_bad)), (q_t_likes, .inl (G 0, 6, .inl t_likes)), (q_t_sight, .inl (G 0, 24, .inl t_sight)), (q_t_image, .inl (G 0, 240, .inl g186)), (q_t_isKept, .inl (G 2, 2, .inl g187))] H := hP
              have hD : va_D A [(q_t, .inr (8, [.int t_there, .ref q_t_book, .ref q_t_now, .ref q_t_does, .ref q_t_bad, .ref q_t_likes, .int t_sights, .ref q_t_sight, .int t_signs, .ref q_t_pad, .ref q_t_then, .int t_worseAt, .int t_worseWho, .int t_hours, .ref q_t_ahead, .int t_reason, .int t_acts, .ref q_t_most, .ref q_t_worth, .ref q_t_damp, .ref q_t_next, .ref q_t_image, .ref q_t_isKept])), (q_t_book, .inl (G 0, 26, .inl t_book)), (q_t_does, .inl (G 0, 12, .inl t_does)), (q_t_bad, .inl (G 0, 36, .inl t_bad)), (q_t_likes, .inl (G 0, 6, .inl t_likes)), (q_t_sight, .inl (G 0, 24, .inl t_sight)), (q_t_image, .inl (G 0, 240, .inl g186)), (q_t_isKept, .inl (G 2, 2, .inl g187))] := hD
              refine lv_iconst (v := (1 : Int32)) hx hb dX8_image_202 (by decide) ?_
              exact RT _ _ _ hf _ _ _ H locs dX8_image_203 (rkI _) hP hD hS
            have L175 : ∀ (k : Nat) (w171 : Int32) (w172 : Nat → Int32), fX8_image_140 t_sight y4 k w171 w172 = some u173 → ∀ (H : Heap) (locs : List Loc), va_P D vwCl [(q_t, .inr (8, [.int t_there, .ref q_t_book, .ref q_t_now, .ref q_t_does, .ref q_t_bad, .ref q_t_likes, .int t_sights, .ref q_t_sight, .int t_signs, .ref q_t_pad, .ref q_t_then, .int t_worseAt, .int t_worseWho, .int t_hours, .ref q_t_ahead, .int t_reason, .int t_acts, .ref q_t_most, .ref q_t_worth, .ref q_t_damp, .ref q_t_next, .ref q_t_image, .ref q_t_isKept])), (q_t_book, .inl (G 0, 26, .inl t_book)), (q_t_does, .inl (G 0, 12, .inl t_does)), (q_t_bad, .inl (G 0, 36, .inl t_bad)), (q_t_likes, .inl (G 0, 6, .inl t_likes)), (q_t_sight, .inl (G 0, 24, .inl t_sight)), (q_t_image, .inl (G 0, 240, .inl w172)), (q_t_isKept, .inl (G 2, 2, .inl t_isKept))] H → va_D A [(q_t, .inr (8, [.int t_there, .ref q_t_book, .ref q_t_now, .ref q_t_does, .ref q_t_bad, .ref q_t_likes, .int t_sights, .ref q_t_sight, .int t_signs, .ref q_t_pad, .ref q_t_then, .int t_worseAt, .int t_worseWho, .int t_hours, .ref q_t_ahead, .int t_reason, .int t_acts, .ref q_t_most, .ref q_t_worth, .ref q_t_damp, .ref q_t_next, .ref q_t_image, .ref q_t_isKept])), (q_t_book, .inl (G 0, 26, .inl t_book)), (q_t_does, .inl (G 0, 12, .inl t_does)), (q_t_bad, .inl (G 0, 36, .inl t_bad)), (q_t_likes, .inl (G 0, 6, .inl t_likes)), (q_t_sight, .inl (G 0, 24, .inl t_sight)), (q_t_image, .inl (G 0, 240, .inl w172)), (q_t_isKept, .inl (G 2, 2, .inl t_isKept))] → va_S A s.heap H locs → ∀ ls : Array Slot, lv_has ls 4 [(0, .ref q_t), (1, .int v1), (2, .int y4), (3, .int w171)] → W p l e (kR 2 82) s m args below meth c H locs 0 0 Q (F0 m 140 ls []) := by
              intro k; induction k with
              | zero => intro w171 w172 hf; exact nosome hf
              | succ k ih =>
                intro w171 w172 hf; rw [fX8_image_140] at hf
                intro H locs hP hD hS ls hl
                refine lv_iload_n hx hb dX8_image_140 rfl (lv_at hl 3 rfl) ?_
                refine lv_bipush (v := (24 : Int32)) hx hb dX8_image_141 (by decide) ?_
                refine lv_icmp_ge (tgt := 169) hx hb dX8_image_143 (by decide) (fun c180 => ?_) (fun c180 => ?_)
                · have hf := ifp c180 hf
                  exact E174 _ hf H locs hP hD hS ls (lv_sub hl [0, 1, 2] rfl)
                · have hf := ifn c180 hf
                  refine lv_aload_n hx hb dX8_image_146 rfl (lv_at hl 0 rfl) ?_
                  refine va_get (D := D) (ci := 8) (v := .ref q_t_image) (C := RX8) (T := TX8) (N := 23) hx hb hts inX8 hown hK hP 0 rfl rfl 21 (by decide) (hts _ lfX8_50) (fun _ h9 => h9) rfl dX8_image_147 ?_
                  refine lv_iload_n hx hb dX8_image_150 rfl (lv_at hl 2 rfl) ?_
                  refine lv_bipush (v := (80 : Int32)) hx hb dX8_image_151 (by decide) ?_
                  refine lv_iadd hx hb dX8_image_153 ?_
                  refine lv_iload_n hx hb dX8_image_154 rfl (lv_at hl 3 rfl) ?_
                  refine lv_iadd hx hb dX8_image_155 ?_
                  refine lv_aload_n hx hb dX8_image_156 rfl (lv_at hl 0 rfl) ?_
                  refine va_get (D := D) (ci := 8) (v := .ref q_t_sight) (C := RX8) (T := TX8) (N := 23) hx hb hts inX8 hown hK hP 0 rfl rfl 7 (by decide) (hts _ lfX8_25) (fun _ h9 => h9) rfl dX8_image_157 ?_
                  refine lv_iload_n hx hb dX8_image_160 rfl (lv_at hl 3 rfl) ?_
                  obtain ⟨x181, ex181, ix181, hf⟩ := ldIE hf
                  refine k_iald hx hb hK hP 5 0 rfl rfl ix181 ex181 dX8_image_161 ?_
                  obtain ⟨g182, eg182, ig182, hf⟩ := stIE hf
                  refine k_iast hx hb hK hP hD hS 6 0 rfl rfl ig182 eg182 dX8_image_162 (fun H locs hP hD hS => ?_)
                  have hP : va_P D vwCl [(q_t, .inr (8, [.int t_there, .ref q_t_book, .ref q_t_now, .ref q_t_does, .ref q_t_bad, .ref q_t_likes, .int t_sights, .ref q_t_sight, .int t_signs, .ref q_t_pad, .ref q_t_then, .int t_worseAt, .int t_worseWho, .int t_hours, .ref q_t_ahead, .int t_reason, .int t_acts, .ref q_t_most, .ref q_t_worth, .ref q_t_damp, .ref q_t_next, .ref q_t_image, .ref q_t_isKept])), (q_t_book, .inl (G 0, 26, .inl t_book)), (q_t_does, .inl (G 0, 12, .inl t_does)), (q_t_bad, .inl (G 0, 36, .inl t_bad)), (q_t_likes, .inl (G 0, 6, .inl t_likes)), (q_t_sight, .inl (G 0, 24, .inl t_sight)), (q_t_image, .inl (G 0, 240, .inl g182)), (q_t_isKept, .inl (G 2, 2, .inl t_isKept))] H := hP
                  have hD : va_D A [(q_t, .inr (8, [.int t_there, .ref q_t_book, .ref q_t_now, .ref q_t_does, .ref q_t_bad, .ref q_t_likes, .int t_sights, .ref q_t_sight, .int t_signs, .ref q_t_pad, .ref q_t_then, .int t_worseAt, .int t_worseWho, .int t_hours, .ref q_t_ahead, .int t_reason, .int t_acts, .ref q_t_most, .ref q_t_worth, .ref q_t_damp, .ref q_t_next, .ref q_t_image, .ref q_t_isKept])), (q_t_book, .inl (G 0, 26, .inl t_book)), (q_t_does, .inl (G 0, 12, .inl t_does)), (q_t_bad, .inl (G 0, 36, .inl t_bad)), (q_t_likes, .inl (G 0, 6, .inl t_likes)), (q_t_sight, .inl (G 0, 24, .inl t_sight)), (q_t_image, .inl (G 0, 240, .inl g182)), (q_t_isKept, .inl (G 2, 2, .inl t_isKept))] := hD
                  obtain ⟨y183, ey183⟩ : ∃ y : Int32, y = w171 + (1 : Int32) := ⟨_, rfl⟩
                  have hf := nmeU ey183 hf
                  refine lv_iinc (v := y183) (lv' := [(3, .int y183), (0, .ref q_t), (1, .int v1), (2, .int y4)]) hx hb dX8_image_163 hl (k := 3) rfl (by rw [ey183]; rfl) (by decide) rfl (fun ls hl => ?_)
                  refine lv_goto (tgt := 140) hx hb dX8_image_166 (by decide) ?_
                  exact ih _ _ hf H locs hP hD hS ls (lv_sub hl [1, 2, 3, 0] rfl)
            exact L175 fu (0 : Int32) z148 h177 H locs hP hD hS ls (lv_sub hl [1, 2, 3, 0] rfl)
          have L139 : ∀ (k : Nat) (w135 : Int32) (w136 : Nat → Int32), fX8_image_109 t_likes y4 k w135 w136 = some u137 → ∀ (H : Heap) (locs : List Loc), va_P D vwCl [(q_t, .inr (8, [.int t_there, .ref q_t_book, .ref q_t_now, .ref q_t_does, .ref q_t_bad, .ref q_t_likes, .int t_sights, .ref q_t_sight, .int t_signs, .ref q_t_pad, .ref q_t_then, .int t_worseAt, .int t_worseWho, .int t_hours, .ref q_t_ahead, .int t_reason, .int t_acts, .ref q_t_most, .ref q_t_worth, .ref q_t_damp, .ref q_t_next, .ref q_t_image, .ref q_t_isKept])), (q_t_book, .inl (G 0, 26, .inl t_book)), (q_t_does, .inl (G 0, 12, .inl t_does)), (q_t_bad, .inl (G 0, 36, .inl t_bad)), (q_t_likes, .inl (G 0, 6, .inl t_likes)), (q_t_sight, .inl (G 0, 24, .inl t_sight)), (q_t_image, .inl (G 0, 240, .inl w136)), (q_t_isKept, .inl (G 2, 2, .inl t_isKept))] H → va_D A [(q_t, .inr (8, [.int t_there, .ref q_t_book, .ref q_t_now, .ref q_t_does, .ref q_t_bad, .ref q_t_likes, .int t_sights, .ref q_t_sight, .int t_signs, .ref q_t_pad, .ref q_t_then, .int t_worseAt, .int t_worseWho, .int t_hours, .ref q_t_ahead, .int t_reason, .int t_acts, .ref q_t_most, .ref q_t_worth, .ref q_t_damp, .ref q_t_next, .ref q_t_image, .ref q_t_isKept])), (q_t_book, .inl (G 0, 26, .inl t_book)), (q_t_does, .inl (G 0, 12, .inl t_does)), (q_t_bad, .inl (G 0, 36, .inl t_bad)), (q_t_likes, .inl (G 0, 6, .inl t_likes)), (q_t_sight, .inl (G 0, 24, .inl t_sight)), (q_t_image, .inl (G 0, 240, .inl w136)), (q_t_isKept, .inl (G 2, 2, .inl t_isKept))] → va_S A s.heap H locs → ∀ ls : Array Slot, lv_has ls 4 [(0, .ref q_t), (1, .int v1), (2, .int y4), (3, .int w135)] → W p l e (kR 2 82) s m args below meth c H locs 0 0 Q (F0 m 109 ls []) := by
            intro k; induction k with
            | zero => intro w135 w136 hf; exact nosome hf
            | succ k ih =>
              intro w135 w136 hf; rw [fX8_image_109] at hf
              intro H locs hP hD hS ls hl
              refine lv_iload_n hx hb dX8_image_109 rfl (lv_at hl 3 rfl) ?_
              refine lv_bipush (v := (6 : Int32)) hx hb dX8_image_110 (by decide) ?_
              refine lv_icmp_ge (tgt := 138) hx hb dX8_image_112 (by decide) (fun c144 => ?_) (fun c144 => ?_)
              · have hf := ifp c144 hf
                exact E138 _ hf H locs hP hD hS ls (lv_sub hl [0, 1, 2] rfl)
              · have hf := ifn c144 hf
                refine lv_aload_n hx hb dX8_image_115 rfl (lv_at hl 0 rfl) ?_
                refine va_get (D := D) (ci := 8) (v := .ref q_t_image) (C := RX8) (T := TX8) (N := 23) hx hb hts inX8 hown hK hP 0 rfl rfl 21 (by decide) (hts _ lfX8_50) (fun _ h9 => h9) rfl dX8_image_116 ?_
                refine lv_iload_n hx hb dX8_image_119 rfl (lv_at hl 2 rfl) ?_
                refine lv_bipush (v := (74 : Int32)) hx hb dX8_image_120 (by decide) ?_
                refine lv_iadd hx hb dX8_image_122 ?_
                refine lv_iload_n hx hb dX8_image_123 rfl (lv_at hl 3 rfl) ?_
                refine lv_iadd hx hb dX8_image_124 ?_
                refine lv_aload_n hx hb dX8_image_125 rfl (lv_at hl 0 rfl) ?_
                refine va_get (D := D) (ci := 8) (v := .ref q_t_likes) (C := RX8) (T := TX8) (N := 23) hx hb hts inX8 hown hK hP 0 rfl rfl 5 (by decide) (hts _ lfX8_22) (fun _ h9 => h9) rfl dX8_image_126 ?_
                refine lv_iload_n hx hb dX8_image_129 rfl (lv_at hl 3 rfl) ?_
                obtain ⟨x145, ex145, ix145, hf⟩ := ldIE hf
                refine k_iald hx hb hK hP 4 0 rfl rfl ix145 ex145 dX8_image_130 ?_
                obtain ⟨g146, eg146, ig146, hf⟩ := stIE hf
                refine k_iast hx hb hK hP hD hS 6 0 rfl rfl ig146 eg146 dX8_image_131 (fun H locs hP hD hS => ?_)
                have hP : va_P D vwCl [(q_t, .inr (8, [.int t_there, .ref q_t_book, .ref q_t_now, .ref q_t_does, .ref q_t_bad, .ref q_t_likes, .int t_sights, .ref q_t_sight, .int t_signs, .ref q_t_pad, .ref q_t_then, .int t_worseAt, .int t_worseWho, .int t_hours, .ref q_t_ahead, .int t_reason, .int t_acts, .ref q_t_most, .ref q_t_worth, .ref q_t_damp, .ref q_t_next, .ref q_t_image, .ref q_t_isKept])), (q_t_book, .inl (G 0, 26, .inl t_book)), (q_t_does, .inl (G 0, 12, .inl t_does)), (q_t_bad, .inl (G 0, 36, .inl t_bad)), (q_t_likes, .inl (G 0, 6, .inl t_likes)), (q_t_sight, .inl (G 0, 24, .inl t_sight)), (q_t_image, .inl (G 0, 240, .inl g146)), (q_t_isKept, .inl (G 2, 2, .inl t_isKept))] H := hP
                have hD : va_D A [(q_t, .inr (8, [.int t_there, .ref q_t_book, .ref q_t_now, .ref q_t_does, .ref q_t_bad, .ref q_t_likes, .int t_sights, .ref q_t_sight, .int t_signs, .ref q_t_pad, .ref q_t_then, .int t_worseAt, .int t_worseWho, .int t_hours, .ref q_t_ahead, .int t_reason, .int t_acts, .ref q_t_most, .ref q_t_worth, .ref q_t_damp, .ref q_t_next, .ref q_t_image, .ref q_t_isKept])), (q_t_book, .inl (G 0, 26, .inl t_book)), (q_t_does, .inl (G 0, 12, .inl t_does)), (q_t_bad, .inl (G 0, 36, .inl t_bad)), (q_t_likes, .inl (G 0, 6, .inl t_likes)), (q_t_sight, .inl (G 0, 24, .inl t_sight)), (q_t_image, .inl (G 0, 240, .inl g146)), (q_t_isKept, .inl (G 2, 2, .inl t_isKept))] := hD
                obtain ⟨y147, ey147⟩ : ∃ y : Int32, y = w135 + (1 : Int32) := ⟨_, rfl⟩
                have hf := nmeU ey147 hf
                refine lv_iinc (v := y147) (lv' := [(3, .int y147), (0, .ref q_t), (1, .int v1), (2, .int y4)]) hx hb dX8_image_132 hl (k := 3) rfl (by rw [ey147]; rfl) (by decide) rfl (fun ls hl => ?_)
                refine lv_goto (tgt := 109) hx hb dX8_image_135 (by decide) ?_
                exact ih _ _ hf H locs hP hD hS ls (lv_sub hl [1, 2, 3, 0] rfl)
          exact L139 fu (0 : Int32) z112 h141 H locs hP hD hS ls (lv_sub hl [1, 2, 3, 0] rfl)
        have L103 : ∀ (k : Nat) (w99 : Int32) (w100 : Nat → Int32), fX8_image_78 t_bad y4 k w99 w100 = some u101 → ∀ (H : Heap) (locs : List Loc), va_P D vwCl [(q_t, .inr (8, [.int t_there, .ref q_t_book, .ref q_t_now, .ref q_t_does, .ref q_t_bad, .ref q_t_likes, .int t_sights, .ref q_t_sight, .int t_signs, .ref q_t_pad, .ref q_t_then, .int t_worseAt, .int t_worseWho, .int t_hours, .ref q_t_ahead, .int t_reason, .int t_acts, .ref q_t_most, .ref q_t_worth, .ref q_t_damp, .ref q_t_next, .ref q_t_image, .ref q_t_isKept])), (q_t_book, .inl (G 0, 26, .inl t_book)), (q_t_does, .inl (G 0, 12, .inl t_does)), (q_t_bad, .inl (G 0, 36, .inl t_bad)), (q_t_likes, .inl (G 0, 6, .inl t_likes)), (q_t_sight, .inl (G 0, 24, .inl t_sight)), (q_t_image, .inl (G 0, 240, .inl w100)), (q_t_isKept, .inl (G 2, 2, .inl t_isKept))] H → va_D A [(q_t, .inr (8, [.int t_there, .ref q_t_book, .ref q_t_now, .ref q_t_does, .ref q_t_bad, .ref q_t_likes, .int t_sights, .ref q_t_sight, .int t_signs, .ref q_t_pad, .ref q_t_then, .int t_worseAt, .int t_worseWho, .int t_hours, .ref q_t_ahead, .int t_reason, .int t_acts, .ref q_t_most, .ref q_t_worth, .ref q_t_damp, .ref q_t_next, .ref q_t_image, .ref q_t_isKept])), (q_t_book, .inl (G 0, 26, .inl t_book)), (q_t_does, .inl (G 0, 12, .inl t_does)), (q_t_bad, .inl (G 0, 36, .inl t_bad)), (q_t_likes, .inl (G 0, 6, .inl t_likes)), (q_t_sight, .inl (G 0, 24, .inl t_sight)), (q_t_image, .inl (G 0, 240, .inl w100)), (q_t_isKept, .inl (G 2, 2, .inl t_isKept))] → va_S A s.heap H locs → ∀ ls : Array Slot, lv_has ls 4 [(0, .ref q_t), (1, .int v1), (2, .int y4), (3, .int w99)] → W p l e (kR 2 82) s m args below meth c H locs 0 0 Q (F0 m 78 ls []) := by
          intro k; induction k with
          | zero => intro w99 w100 hf; exact nosome hf
          | succ k ih =>
            intro w99 w100 hf; rw [fX8_image_78] at hf
            intro H locs hP hD hS ls hl
            refine lv_iload_n hx hb dX8_image_78 rfl (lv_at hl 3 rfl) ?_
            refine lv_bipush (v := (36 : Int32)) hx hb dX8_image_79 (by decide) ?_
            refine lv_icmp_ge (tgt := 107) hx hb dX8_image_81 (by decide) (fun c108 => ?_) (fun c108 => ?_)
            · have hf := ifp c108 hf
              exact E102 _ hf H locs hP hD hS ls (lv_sub hl [0, 1, 2] rfl)
            · have hf := ifn c108 hf
              refine lv_aload_n hx hb dX8_image_84 rfl (lv_at hl 0 rfl) ?_
              refine va_get (D := D) (ci := 8) (v := .ref q_t_image) (C := RX8) (T := TX8) (N := 23) hx hb hts inX8 hown hK hP 0 rfl rfl 21 (by decide) (hts _ lfX8_50) (fun _ h9 => h9) rfl dX8_image_85 ?_
              refine lv_iload_n hx hb dX8_image_88 rfl (lv_at hl 2 rfl) ?_
              refine lv_bipush (v := (38 : Int32)) hx hb dX8_image_89 (by decide) ?_
              refine lv_iadd hx hb dX8_image_91 ?_
              refine lv_iload_n hx hb dX8_image_92 rfl (lv_at hl 3 rfl) ?_
              refine lv_iadd hx hb dX8_image_93 ?_
              refine lv_aload_n hx hb dX8_image_94 rfl (lv_at hl 0 rfl) ?_
              refine va_get (D := D) (ci := 8) (v := .ref q_t_bad) (C := RX8) (T := TX8) (N := 23) hx hb hts inX8 hown hK hP 0 rfl rfl 4 (by decide) (hts _ lfX8_19) (fun _ h9 => h9) rfl dX8_image_95 ?_
              refine lv_iload_n hx hb dX8_image_98 rfl (lv_at hl 3 rfl) ?_
              obtain ⟨x109, ex109, ix109, hf⟩ := ldIE hf
              refine k_iald hx hb hK hP 3 0 rfl rfl ix109 ex109 dX8_image_99 ?_
              obtain ⟨g110, eg110, ig110, hf⟩ := stIE hf
              refine k_iast hx hb hK hP hD hS 6 0 rfl rfl ig110 eg110 dX8_image_100 (fun H locs hP hD hS => ?_)
              have hP : va_P D vwCl [(q_t, .inr (8, [.int t_there, .ref q_t_book, .ref q_t_now, .ref q_t_does, .ref q_t_bad, .ref q_t_likes, .int t_sights, .ref q_t_sight, .int t_signs, .ref q_t_pad, .ref q_t_then, .int t_worseAt, .int t_worseWho, .int t_hours, .ref q_t_ahead, .int t_reason, .int t_acts, .ref q_t_most, .ref q_t_worth, .ref q_t_damp, .ref q_t_next, .ref q_t_image, .ref q_t_isKept])), (q_t_book, .inl (G 0, 26, .inl t_book)), (q_t_does, .inl (G 0, 12, .inl t_does)), (q_t_bad, .inl (G 0, 36, .inl t_bad)), (q_t_likes, .inl (G 0, 6, .inl t_likes)), (q_t_sight, .inl (G 0, 24, .inl t_sight)), (q_t_image, .inl (G 0, 240, .inl g110)), (q_t_isKept, .inl (G 2, 2, .inl t_isKept))] H := hP
              have hD : va_D A [(q_t, .inr (8, [.int t_there, .ref q_t_book, .ref q_t_now, .ref q_t_does, .ref q_t_bad, .ref q_t_likes, .int t_sights, .ref q_t_sight, .int t_signs, .ref q_t_pad, .ref q_t_then, .int t_worseAt, .int t_worseWho, .int t_hours, .ref q_t_ahead, .int t_reason, .int t_acts, .ref q_t_most, .ref q_t_worth, .ref q_t_damp, .ref q_t_next, .ref q_t_image, .ref q_t_isKept])), (q_t_book, .inl (G 0, 26, .inl t_book)), (q_t_does, .inl (G 0, 12, .inl t_does)), (q_t_bad, .inl (G 0, 36, .inl t_bad)), (q_t_likes, .inl (G 0, 6, .inl t_likes)), (q_t_sight, .inl (G 0, 24, .inl t_sight)), (q_t_image, .inl (G 0, 240, .inl g110)), (q_t_isKept, .inl (G 2, 2, .inl t_isKept))] := hD
              obtain ⟨y111, ey111⟩ : ∃ y : Int32, y = w99 + (1 : Int32) := ⟨_, rfl⟩
              have hf := nmeU ey111 hf
              refine lv_iinc (v := y111) (lv' := [(3, .int y111), (0, .ref q_t), (1, .int v1), (2, .int y4)]) hx hb dX8_image_101 hl (k := 3) rfl (by rw [ey111]; rfl) (by decide) rfl (fun ls hl => ?_)
              refine lv_goto (tgt := 78) hx hb dX8_image_104 (by decide) ?_
              exact ih _ _ hf H locs hP hD hS ls (lv_sub hl [1, 2, 3, 0] rfl)
        exact L103 fu (0 : Int32) z76 h105 H locs hP hD hS ls (lv_sub hl [1, 2, 3, 0] rfl)
      have L67 : ∀ (k : Nat) (w63 : Int32) (w64 : Nat → Int32), fX8_image_47 t_does y4 k w63 w64 = some u65 → ∀ (H : Heap) (locs : List Loc), va_P D vwCl [(q_t, .inr (8, [.int t_there, .ref q_t_book, .ref q_t_now, .ref q_t_does, .ref q_t_bad, .ref q_t_likes, .int t_sights, .ref q_t_sight, .int t_signs, .ref q_t_pad, .ref q_t_then, .int t_worseAt, .int t_worseWho, .int t_hours, .ref q_t_ahead, .int t_reason, .int t_acts, .ref q_t_most, .ref q_t_worth, .ref q_t_damp, .ref q_t_next, .ref q_t_image, .ref q_t_isKept])), (q_t_book, .inl (G 0, 26, .inl t_book)), (q_t_does, .inl (G 0, 12, .inl t_does)), (q_t_bad, .inl (G 0, 36, .inl t_bad)), (q_t_likes, .inl (G 0, 6, .inl t_likes)), (q_t_sight, .inl (G 0, 24, .inl t_sight)), (q_t_image, .inl (G 0, 240, .inl w64)), (q_t_isKept, .inl (G 2, 2, .inl t_isKept))] H → va_D A [(q_t, .inr (8, [.int t_there, .ref q_t_book, .ref q_t_now, .ref q_t_does, .ref q_t_bad, .ref q_t_likes, .int t_sights, .ref q_t_sight, .int t_signs, .ref q_t_pad, .ref q_t_then, .int t_worseAt, .int t_worseWho, .int t_hours, .ref q_t_ahead, .int t_reason, .int t_acts, .ref q_t_most, .ref q_t_worth, .ref q_t_damp, .ref q_t_next, .ref q_t_image, .ref q_t_isKept])), (q_t_book, .inl (G 0, 26, .inl t_book)), (q_t_does, .inl (G 0, 12, .inl t_does)), (q_t_bad, .inl (G 0, 36, .inl t_bad)), (q_t_likes, .inl (G 0, 6, .inl t_likes)), (q_t_sight, .inl (G 0, 24, .inl t_sight)), (q_t_image, .inl (G 0, 240, .inl w64)), (q_t_isKept, .inl (G 2, 2, .inl t_isKept))] → va_S A s.heap H locs → ∀ ls : Array Slot, lv_has ls 4 [(0, .ref q_t), (1, .int v1), (2, .int y4), (3, .int w63)] → W p l e (kR 2 82) s m args below meth c H locs 0 0 Q (F0 m 47 ls []) := by
        intro k; induction k with
        | zero => intro w63 w64 hf; exact nosome hf
        | succ k ih =>
          intro w63 w64 hf; rw [fX8_image_47] at hf
          intro H locs hP hD hS ls hl
          refine lv_iload_n hx hb dX8_image_47 rfl (lv_at hl 3 rfl) ?_
          refine lv_bipush (v := (12 : Int32)) hx hb dX8_image_48 (by decide) ?_
          refine lv_icmp_ge (tgt := 76) hx hb dX8_image_50 (by decide) (fun c72 => ?_) (fun c72 => ?_)
          · have hf := ifp c72 hf
            exact E66 _ hf H locs hP hD hS ls (lv_sub hl [0, 1, 2] rfl)
          · have hf := ifn c72 hf
            refine lv_aload_n hx hb dX8_image_53 rfl (lv_at hl 0 rfl) ?_
            refine va_get (D := D) (ci := 8) (v := .ref q_t_image) (C := RX8) (T := TX8) (N := 23) hx hb hts inX8 hown hK hP 0 rfl rfl 21 (by decide) (hts _ lfX8_50) (fun _ h9 => h9) rfl dX8_image_54 ?_
            refine lv_iload_n hx hb dX8_image_57 rfl (lv_at hl 2 rfl) ?_
            refine lv_bipush (v := (26 : Int32)) hx hb dX8_image_58 (by decide) ?_
            refine lv_iadd hx hb dX8_image_60 ?_
            refine lv_iload_n hx hb dX8_image_61 rfl (lv_at hl 3 rfl) ?_
            refine lv_iadd hx hb dX8_image_62 ?_
            refine lv_aload_n hx hb dX8_image_63 rfl (lv_at hl 0 rfl) ?_
            refine va_get (D := D) (ci := 8) (v := .ref q_t_does) (C := RX8) (T := TX8) (N := 23) hx hb hts inX8 hown hK hP 0 rfl rfl 3 (by decide) (hts _ lfX8_16) (fun _ h9 => h9) rfl dX8_image_64 ?_
            refine lv_iload_n hx hb dX8_image_67 rfl (lv_at hl 3 rfl) ?_
            obtain ⟨x73, ex73, ix73, hf⟩ := ldIE hf
            refine k_iald hx hb hK hP 2 0 rfl rfl ix73 ex73 dX8_image_68 ?_
            obtain ⟨g74, eg74, ig74, hf⟩ := stIE hf
            refine k_iast hx hb hK hP hD hS 6 0 rfl rfl ig74 eg74 dX8_image_69 (fun H locs hP hD hS => ?_)
            have hP : va_P D vwCl [(q_t, .inr (8, [.int t_there, .ref q_t_book, .ref q_t_now, .ref q_t_does, .ref q_t_bad, .ref q_t_likes, .int t_sights, .ref q_t_sight, .int t_signs, .ref q_t_pad, .ref q_t_then, .int t_worseAt, .int t_worseWho, .int t_hours, .ref q_t_ahead, .int t_reason, .int t_acts, .ref q_t_most, .ref q_t_worth, .ref q_t_damp, .ref q_t_next, .ref q_t_image, .ref q_t_isKept])), (q_t_book, .inl (G 0, 26, .inl t_book)), (q_t_does, .inl (G 0, 12, .inl t_does)), (q_t_bad, .inl (G 0, 36, .inl t_bad)), (q_t_likes, .inl (G 0, 6, .inl t_likes)), (q_t_sight, .inl (G 0, 24, .inl t_sight)), (q_t_image, .inl (G 0, 240, .inl g74)), (q_t_isKept, .inl (G 2, 2, .inl t_isKept))] H := hP
            have hD : va_D A [(q_t, .inr (8, [.int t_there, .ref q_t_book, .ref q_t_now, .ref q_t_does, .ref q_t_bad, .ref q_t_likes, .int t_sights, .ref q_t_sight, .int t_signs, .ref q_t_pad, .ref q_t_then, .int t_worseAt, .int t_worseWho, .int t_hours, .ref q_t_ahead, .int t_reason, .int t_acts, .ref q_t_most, .ref q_t_worth, .ref q_t_damp, .ref q_t_next, .ref q_t_image, .ref q_t_isKept])), (q_t_book, .inl (G 0, 26, .inl t_book)), (q_t_does, .inl (G 0, 12, .inl t_does)), (q_t_bad, .inl (G 0, 36, .inl t_bad)), (q_t_likes, .inl (G 0, 6, .inl t_likes)), (q_t_sight, .inl (G 0, 24, .inl t_sight)), (q_t_image, .inl (G 0, 240, .inl g74)), (q_t_isKept, .inl (G 2, 2, .inl t_isKept))] := hD
            obtain ⟨y75, ey75⟩ : ∃ y : Int32, y = w63 + (1 : Int32) := ⟨_, rfl⟩
            have hf := nmeU ey75 hf
            refine lv_iinc (v := y75) (lv' := [(3, .int y75), (0, .ref q_t), (1, .int v1), (2, .int y4)]) hx hb dX8_image_70 hl (k := 3) rfl (by rw [ey75]; rfl) (by decide) rfl (fun ls hl => ?_)
            refine lv_goto (tgt := 47) hx hb dX8_image_73 (by decide) ?_
            exact ih _ _ hf H locs hP hD hS ls (lv_sub hl [1, 2, 3, 0] rfl)
      exact L67 fu (0 : Int32) z40 h69 H locs hP hD hS ls (lv_sub hl [1, 2, 3, 0] rfl)
    have L31 : ∀ (k : Nat) (w27 : Int32) (w28 : Nat → Int32), fX8_image_19 t_book y4 k w27 w28 = some u29 → ∀ (H : Heap) (locs : List Loc), va_P D vwCl [(q_t, .inr (8, [.int t_there, .ref q_t_book, .ref q_t_now, .ref q_t_does, .ref q_t_bad, .ref q_t_likes, .int t_sights, .ref q_t_sight, .int t_signs, .ref q_t_pad, .ref q_t_then, .int t_worseAt, .int t_worseWho, .int t_hours, .ref q_t_ahead, .int t_reason, .int t_acts, .ref q_t_most, .ref q_t_worth, .ref q_t_damp, .ref q_t_next, .ref q_t_image, .ref q_t_isKept])), (q_t_book, .inl (G 0, 26, .inl t_book)), (q_t_does, .inl (G 0, 12, .inl t_does)), (q_t_bad, .inl (G 0, 36, .inl t_bad)), (q_t_likes, .inl (G 0, 6, .inl t_likes)), (q_t_sight, .inl (G 0, 24, .inl t_sight)), (q_t_image, .inl (G 0, 240, .inl w28)), (q_t_isKept, .inl (G 2, 2, .inl t_isKept))] H → va_D A [(q_t, .inr (8, [.int t_there, .ref q_t_book, .ref q_t_now, .ref q_t_does, .ref q_t_bad, .ref q_t_likes, .int t_sights, .ref q_t_sight, .int t_signs, .ref q_t_pad, .ref q_t_then, .int t_worseAt, .int t_worseWho, .int t_hours, .ref q_t_ahead, .int t_reason, .int t_acts, .ref q_t_most, .ref q_t_worth, .ref q_t_damp, .ref q_t_next, .ref q_t_image, .ref q_t_isKept])), (q_t_book, .inl (G 0, 26, .inl t_book)), (q_t_does, .inl (G 0, 12, .inl t_does)), (q_t_bad, .inl (G 0, 36, .inl t_bad)), (q_t_likes, .inl (G 0, 6, .inl t_likes)), (q_t_sight, .inl (G 0, 24, .inl t_sight)), (q_t_image, .inl (G 0, 240, .inl w28)), (q_t_isKept, .inl (G 2, 2, .inl t_isKept))] → va_S A s.heap H locs → ∀ ls : Array Slot, lv_has ls 4 [(0, .ref q_t), (1, .int v1), (2, .int y4), (3, .int w27)] → W p l e (kR 2 82) s m args below meth c H locs 0 0 Q (F0 m 19 ls []) := by
      intro k; induction k with
      | zero => intro w27 w28 hf; exact nosome hf
      | succ k ih =>
        intro w27 w28 hf; rw [fX8_image_19] at hf
        intro H locs hP hD hS ls hl
        refine lv_iload_n hx hb dX8_image_19 rfl (lv_at hl 3 rfl) ?_
        refine lv_bipush (v := (26 : Int32)) hx hb dX8_image_20 (by decide) ?_
        refine lv_icmp_ge (tgt := 45) hx hb dX8_image_22 (by decide) (fun c36 => ?_) (fun c36 => ?_)
        · have hf := ifp c36 hf
          exact E30 _ hf H locs hP hD hS ls (lv_sub hl [0, 1, 2] rfl)
        · have hf := ifn c36 hf
          refine lv_aload_n hx hb dX8_image_25 rfl (lv_at hl 0 rfl) ?_
          refine va_get (D := D) (ci := 8) (v := .ref q_t_image) (C := RX8) (T := TX8) (N := 23) hx hb hts inX8 hown hK hP 0 rfl rfl 21 (by decide) (hts _ lfX8_50) (fun _ h9 => h9) rfl dX8_image_26 ?_
          refine lv_iload_n hx hb dX8_image_29 rfl (lv_at hl 2 rfl) ?_
          refine lv_iload_n hx hb dX8_image_30 rfl (lv_at hl 3 rfl) ?_
          refine lv_iadd hx hb dX8_image_31 ?_
          refine lv_aload_n hx hb dX8_image_32 rfl (lv_at hl 0 rfl) ?_
          refine va_get (D := D) (ci := 8) (v := .ref q_t_book) (C := RX8) (T := TX8) (N := 23) hx hb hts inX8 hown hK hP 0 rfl rfl 1 (by decide) (hts _ lfX8_7) (fun _ h9 => h9) rfl dX8_image_33 ?_
          refine lv_iload_n hx hb dX8_image_36 rfl (lv_at hl 3 rfl) ?_
          obtain ⟨x37, ex37, ix37, hf⟩ := ldIE hf
          refine k_iald hx hb hK hP 1 0 rfl rfl ix37 ex37 dX8_image_37 ?_
          obtain ⟨g38, eg38, ig38, hf⟩ := stIE hf
          refine k_iast hx hb hK hP hD hS 6 0 rfl rfl ig38 eg38 dX8_image_38 (fun H locs hP hD hS => ?_)
          have hP : va_P D vwCl [(q_t, .inr (8, [.int t_there, .ref q_t_book, .ref q_t_now, .ref q_t_does, .ref q_t_bad, .ref q_t_likes, .int t_sights, .ref q_t_sight, .int t_signs, .ref q_t_pad, .ref q_t_then, .int t_worseAt, .int t_worseWho, .int t_hours, .ref q_t_ahead, .int t_reason, .int t_acts, .ref q_t_most, .ref q_t_worth, .ref q_t_damp, .ref q_t_next, .ref q_t_image, .ref q_t_isKept])), (q_t_book, .inl (G 0, 26, .inl t_book)), (q_t_does, .inl (G 0, 12, .inl t_does)), (q_t_bad, .inl (G 0, 36, .inl t_bad)), (q_t_likes, .inl (G 0, 6, .inl t_likes)), (q_t_sight, .inl (G 0, 24, .inl t_sight)), (q_t_image, .inl (G 0, 240, .inl g38)), (q_t_isKept, .inl (G 2, 2, .inl t_isKept))] H := hP
          have hD : va_D A [(q_t, .inr (8, [.int t_there, .ref q_t_book, .ref q_t_now, .ref q_t_does, .ref q_t_bad, .ref q_t_likes, .int t_sights, .ref q_t_sight, .int t_signs, .ref q_t_pad, .ref q_t_then, .int t_worseAt, .int t_worseWho, .int t_hours, .ref q_t_ahead, .int t_reason, .int t_acts, .ref q_t_most, .ref q_t_worth, .ref q_t_damp, .ref q_t_next, .ref q_t_image, .ref q_t_isKept])), (q_t_book, .inl (G 0, 26, .inl t_book)), (q_t_does, .inl (G 0, 12, .inl t_does)), (q_t_bad, .inl (G 0, 36, .inl t_bad)), (q_t_likes, .inl (G 0, 6, .inl t_likes)), (q_t_sight, .inl (G 0, 24, .inl t_sight)), (q_t_image, .inl (G 0, 240, .inl g38)), (q_t_isKept, .inl (G 2, 2, .inl t_isKept))] := hD
          obtain ⟨y39, ey39⟩ : ∃ y : Int32, y = w27 + (1 : Int32) := ⟨_, rfl⟩
          have hf := nmeU ey39 hf
          refine lv_iinc (v := y39) (lv' := [(3, .int y39), (0, .ref q_t), (1, .int v1), (2, .int y4)]) hx hb dX8_image_39 hl (k := 3) rfl (by rw [ey39]; rfl) (by decide) rfl (fun ls hl => ?_)
          refine lv_goto (tgt := 19) hx hb dX8_image_42 (by decide) ?_
          exact ih _ _ hf H locs hP hD hS ls (lv_sub hl [1, 2, 3, 0] rfl)
    exact L31 fu (0 : Int32) t_image h33 H locs hP hD hS ls (lv_sub hl [2, 3, 1, 0] rfl)
  · have hf := ifp c3 hf
    refine lv_bipush (v := (-2 : Int32)) hx hb dX8_image_9 (by decide) ?_
    exact RT _ _ _ hf _ _ _ H locs dX8_image_11 (rkI _) hP hD hS
set_option maxHeartbeats 4000000 in
set_option maxRecDepth 100000 in
theorem kX8_isPairs (l : Launch) (D : va_G) (G : Nat → ClassId) (v0 : Int32) {r : Int32} (hf : fX8_isPairs v0 = some r) : rO l D G yX8_isPairs cX8_isPairs 1 (some .boolean) 2 82 [.int v0] [] (some (.int r)) := by
  refine rO_of (by decide) (Nat.le_of_ble_eq_true rfl) ?_
  intro p e s m args below meth c Q hx hb hml hown hts hK hn hP RET ls hl
  have RT : ∀ (a0_ : Int32), some a0_ = some r → ∀ (pc : Nat) (ls : Array Slot) (ins : Instr), decode cX8_isPairs pc = .ok (ins, 1) → rk (some .boolean) (some (.int a0_)) ins → W p l e (kR 2 82) s m args below meth c s.heap [] 0 0 Q (F0 m pc ls [.int a0_]) := by
    intro a0_ hy; obtain rfl := sm1 hy
    exact RET
  have hown : s.vm.findClass RX8 = some m.cls := hown
  have hl : lv_has ls 1 [(0, .int v0)] := hl
  clear RET
  rw [fX8_isPairs] at hf
  refine lv_iload_n hx hb dX8_isPairs_0 rfl (lv_at hl 0 rfl) ?_
  refine lv_iconst (v := (0 : Int32)) hx hb dX8_isPairs_1 (by decide) ?_
  refine lv_sipush (v := (32767 : Int32)) hx hb dX8_isPairs_2 (by decide) ?_
  obtain ⟨r1, h2, hf⟩ := bd1E hf
  refine kO_stat hx hb hml hown hts hK hn hP (kX8_in l D G v0 (0 : Int32) (32767 : Int32) h2) csX8_61 ⟨Nat.le_of_ble_eq_true rfl, Nat.le_of_ble_eq_true rfl⟩ [] rfl rfl hl.1 rfl (Nat.le_of_ble_eq_true rfl) ⟨Nat.zero_le _, Nat.zero_le _⟩ dX8_isPairs_5 ?_
  obtain ⟨h01, hf⟩ := rzE hf
  exact RT _ hf _ _ _ dX8_isPairs_8 (rkZ h01)
set_option maxHeartbeats 4000000 in
set_option maxRecDepth 100000 in
theorem kX8_judge (l : Launch) (D : va_G) (G : Nat → ClassId) (fu : Nat) (q_t q_t_book q_t_now q_t_does q_t_bad q_t_likes q_t_sight q_t_pad q_t_then q_t_ahead q_t_most q_t_worth q_t_damp q_t_next q_t_image q_t_isKept : Nat) (t_there : Int32) (t_sights : Int32) (t_signs : Int32) (t_worseAt : Int32) (t_worseWho : Int32) (t_hours : Int32) (t_reason : Int32) (t_acts : Int32) (t_book : Nat → Int32) (t_now : Nat → Int32) (t_does : Nat → Int32) (t_bad : Nat → Int32) (t_pad : Nat → Int32) (t_then : Nat → Int32) (t_ahead : Nat → Int32) (v1 : Int32) {r : Int32} {o_t_worseAt : Int32} {o_t_worseWho : Int32} {o_t_hours : Int32} {o_t_reason : Int32} {o_t_acts : Int32} {o_t_now : Nat → Int32} {o_t_then : Nat → Int32} {o_t_ahead : Nat → Int32} (hf : fX8_judge fu t_there t_signs t_worseAt t_worseWho t_hours t_reason t_acts t_book t_now t_does t_bad t_pad t_then t_ahead v1 = some (r, o_t_worseAt, o_t_worseWho, o_t_hours, o_t_reason, o_t_acts, o_t_now, o_t_then, o_t_ahead)) : rW l D G yX8_judge cX8_judge 3 (some .int) 5 149 [.ref q_t, .int v1] [(q_t, .inr (8, [.int t_there, .ref q_t_book, .ref q_t_now, .ref q_t_does, .ref q_t_bad, .ref q_t_likes, .int t_sights, .ref q_t_sight, .int t_signs, .ref q_t_pad, .ref q_t_then, .int t_worseAt, .int t_worseWho, .int t_hours, .ref q_t_ahead, .int t_reason, .int t_acts, .ref q_t_most, .ref q_t_worth, .ref q_t_damp, .ref q_t_next, .ref q_t_image, .ref q_t_isKept])), (q_t_book, .inl (G 0, 26, .inl t_book)), (q_t_now, .inl (G 0, 26, .inl t_now)), (q_t_does, .inl (G 0, 12, .inl t_does)), (q_t_bad, .inl (G 0, 36, .inl t_bad)), (q_t_pad, .inl (G 0, 60, .inl t_pad)), (q_t_then, .inl (G 0, 18, .inl t_then)), (q_t_ahead, .inl (G 0, 6, .inl t_ahead))] [(q_t, .inr (8, [.int t_there, .ref q_t_book, .ref q_t_now, .ref q_t_does, .ref q_t_bad, .ref q_t_likes, .int t_sights, .ref q_t_sight, .int t_signs, .ref q_t_pad, .ref q_t_then, .int o_t_worseAt, .int o_t_worseWho, .int o_t_hours, .ref q_t_ahead, .int o_t_reason, .int o_t_acts, .ref q_t_most, .ref q_t_worth, .ref q_t_damp, .ref q_t_next, .ref q_t_image, .ref q_t_isKept])), (q_t_book, .inl (G 0, 26, .inl t_book)), (q_t_now, .inl (G 0, 26, .inl o_t_now)), (q_t_does, .inl (G 0, 12, .inl t_does)), (q_t_bad, .inl (G 0, 36, .inl t_bad)), (q_t_pad, .inl (G 0, 60, .inl t_pad)), (q_t_then, .inl (G 0, 18, .inl o_t_then)), (q_t_ahead, .inl (G 0, 6, .inl o_t_ahead))] (some (.int r)) := by
  refine rW_of (by decide) (Nat.le_of_ble_eq_true rfl) ?_
  intro p e s m args below meth c Q A hx hb hml hown hts hK hn hA RET H locs hP hD hS ls hl
  have RT : ∀ (a0_ : Int32) (a1_ : Int32) (a2_ : Int32) (a3_ : Int32) (a4_ : Int32) (a5_ : Int32) (a6_ : Nat → Int32) (a7_ : Nat → Int32) (a8_ : Nat → Int32), some (a0_, a1_, a2_, a3_, a4_, a5_, a6_, a7_, a8_) = some (r, o_t_worseAt, o_t_worseWho, o_t_hours, o_t_reason, o_t_acts, o_t_now, o_t_then, o_t_ahead) → ∀ (pc : Nat) (ls : Array Slot) (ins : Instr) (H : Heap) (locs : List Loc), decode cX8_judge pc = .ok (ins, 1) → rk (some .int) (some (.int a0_)) ins → va_P D vwCl [(q_t, .inr (8, [.int t_there, .ref q_t_book, .ref q_t_now, .ref q_t_does, .ref q_t_bad, .ref q_t_likes, .int t_sights, .ref q_t_sight, .int t_signs, .ref q_t_pad, .ref q_t_then, .int a1_, .int a2_, .int a3_, .ref q_t_ahead, .int a4_, .int a5_, .ref q_t_most, .ref q_t_worth, .ref q_t_damp, .ref q_t_next, .ref q_t_image, .ref q_t_isKept])), (q_t_book, .inl (G 0, 26, .inl t_book)), (q_t_now, .inl (G 0, 26, .inl a6_)), (q_t_does, .inl (G 0, 12, .inl t_does)), (q_t_bad, .inl (G 0, 36, .inl t_bad)), (q_t_pad, .inl (G 0, 60, .inl t_pad)), (q_t_then, .inl (G 0, 18, .inl a7_)), (q_t_ahead, .inl (G 0, 6, .inl a8_))] H → va_D A [(q_t, .inr (8, [.int t_there, .ref q_t_book, .ref q_t_now, .ref q_t_does, .ref q_t_bad, .ref q_t_likes, .int t_sights, .ref q_t_sight, .int t_signs, .ref q_t_pad, .ref q_t_then, .int a1_, .int a2_, .int a3_, .ref q_t_ahead, .int a4_, .int a5_, .ref q_t_most, .ref q_t_worth, .ref q_t_damp, .ref q_t_next, .ref q_t_image, .ref q_t_isKept])), (q_t_book, .inl (G 0, 26, .inl t_book)), (q_t_now, .inl (G 0, 26, .inl a6_)), (q_t_does, .inl (G 0, 12, .inl t_does)), (q_t_bad, .inl (G 0, 36, .inl t_bad)), (q_t_pad, .inl (G 0, 60, .inl t_pad)), (q_t_then, .inl (G 0, 18, .inl a7_)), (q_t_ahead, .inl (G 0, 6, .inl a8_))] → va_S A s.heap H locs → W p l e (kR 5 149) s m args below meth c H locs 0 0 Q (F0 m pc ls [.int a0_]) := by
    intro a0_ a1_ a2_ a3_ a4_ a5_ a6_ a7_ a8_ hy; obtain ⟨rfl, rfl, rfl, rfl, rfl, rfl, rfl, rfl, rfl⟩ := sm9 hy
    exact RET
  have hown : s.vm.findClass RX8 = some m.cls := hown
  have hl : lv_has ls 3 [(0, .ref q_t), (1, .int v1)] := hl
  clear RET
  rw [fX8_judge] at hf
  refine lv_iload_n hx hb dX8_judge_0 rfl (lv_at hl 1 rfl) ?_
  refine lv_iconst (v := (0 : Int32)) hx hb dX8_judge_1 (by decide) ?_
  refine lv_iconst (v := (1 : Int32)) hx hb dX8_judge_2 (by decide) ?_
  obtain ⟨r1, h2, hf⟩ := bd1E hf
  refine kO_stat hx hb hml hown hts hK hn hP (kX8_in l D G v1 (0 : Int32) (1 : Int32) h2) csX8_61 ⟨Nat.le_of_ble_eq_true rfl, Nat.le_of_ble_eq_true rfl⟩ [] rfl rfl hl.1 rfl (Nat.le_of_ble_eq_true rfl) ⟨Nat.zero_le _, Nat.zero_le _⟩ dX8_judge_3 ?_
  refine lv_if_ne (tgt := 12) hx hb dX8_judge_6 (by decide) (fun c3 => ?_) (fun c3 => ?_)
  · have hf := ifn c3 hf
    refine lv_aload_n hx hb dX8_judge_12 rfl (lv_at hl 0 rfl) ?_
    obtain ⟨r4, h5, hf⟩ := bd1E hf
    refine kO_virt hx hb hml hown hts hK hn hP (kX8_faultOf l D G fu q_t q_t_book q_t_now q_t_does q_t_bad q_t_likes q_t_sight q_t_pad q_t_then q_t_ahead q_t_most q_t_worth q_t_damp q_t_next q_t_image q_t_isKept t_there t_sights t_signs t_worseAt t_worseWho t_hours t_reason t_acts t_pad h5) cvX8_83 ⟨Nat.le_of_ble_eq_true rfl, Nat.le_of_ble_eq_true rfl⟩ [0, 5] rfl 0 rfl rfl rfl hl.1 rfl (Nat.le_of_ble_eq_true rfl) ⟨Nat.zero_le _, Nat.zero_le _⟩ dX8_judge_13 ?_
    refine lv_if_lt (tgt := 22) hx hb dX8_judge_16 (by decide) (fun c6 => ?_) (fun c6 => ?_)
    · have hf := ifp c6 hf
      refine lv_aload_n hx hb dX8_judge_22 rfl (lv_at hl 0 rfl) ?_
      obtain ⟨r7, o8, o9, o10, o11, o12, o13, o14, o15, h16, hf⟩ := bd9E hf
      refine kW_virt hx hb hml hown hts hK hn hA hP hD hS (kX8_goCures l D G fu q_t q_t_book q_t_now q_t_does q_t_bad q_t_likes q_t_sight q_t_pad q_t_then q_t_ahead q_t_most q_t_worth q_t_damp q_t_next q_t_image q_t_isKept t_there t_sights t_signs t_worseAt t_worseWho t_hours t_reason t_acts t_book t_now t_does t_bad t_pad t_then t_ahead h16) cvX8_127 ⟨Nat.le_of_ble_eq_true rfl, Nat.le_of_ble_eq_true rfl⟩ [0, 1, 2, 3, 4, 5, 6, 7] rfl rfl [true, true, true, true, true, true, true, true] rfl (w3 := [(q_t, .inr (8, [.int t_there, .ref q_t_book, .ref q_t_now, .ref q_t_does, .ref q_t_bad, .ref q_t_likes, .int t_sights, .ref q_t_sight, .int t_signs, .ref q_t_pad, .ref q_t_then, .int o8, .int o9, .int o10, .ref q_t_ahead, .int o11, .int o12, .ref q_t_most, .ref q_t_worth, .ref q_t_damp, .ref q_t_next, .ref q_t_image, .ref q_t_isKept])), (q_t_book, .inl (G 0, 26, .inl t_book)), (q_t_now, .inl (G 0, 26, .inl o13)), (q_t_does, .inl (G 0, 12, .inl t_does)), (q_t_bad, .inl (G 0, 36, .inl t_bad)), (q_t_pad, .inl (G 0, 60, .inl t_pad)), (q_t_then, .inl (G 0, 18, .inl o14)), (q_t_ahead, .inl (G 0, 6, .inl o15))]) [0, 1, 2, 3, 4, 5, 6, 7] rfl rfl 0 rfl rfl rfl hl.1 rfl (Nat.le_of_ble_eq_true rfl) ⟨Nat.zero_le _, Nat.zero_le _⟩ dX8_judge_23 (fun H locs hP hD hS => ?_)
      have hP : va_P D vwCl [(q_t, .inr (8, [.int t_there, .ref q_t_book, .ref q_t_now, .ref q_t_does, .ref q_t_bad, .ref q_t_likes, .int t_sights, .ref q_t_sight, .int t_signs, .ref q_t_pad, .ref q_t_then, .int o8, .int o9, .int o10, .ref q_t_ahead, .int o11, .int o12, .ref q_t_most, .ref q_t_worth, .ref q_t_damp, .ref q_t_next, .ref q_t_image, .ref q_t_isKept])), (q_t_book, .inl (G 0, 26, .inl t_book)), (q_t_now, .inl (G 0, 26, .inl o13)), (q_t_does, .inl (G 0, 12, .inl t_does)), (q_t_bad, .inl (G 0, 36, .inl t_bad)), (q_t_pad, .inl (G 0, 60, .inl t_pad)), (q_t_then, .inl (G 0, 18, .inl o14)), (q_t_ahead, .inl (G 0, 6, .inl o15))] H := hP
      have hD : va_D A [(q_t, .inr (8, [.int t_there, .ref q_t_book, .ref q_t_now, .ref q_t_does, .ref q_t_bad, .ref q_t_likes, .int t_sights, .ref q_t_sight, .int t_signs, .ref q_t_pad, .ref q_t_then, .int o8, .int o9, .int o10, .ref q_t_ahead, .int o11, .int o12, .ref q_t_most, .ref q_t_worth, .ref q_t_damp, .ref q_t_next, .ref q_t_image, .ref q_t_isKept])), (q_t_book, .inl (G 0, 26, .inl t_book)), (q_t_now, .inl (G 0, 26, .inl o13)), (q_t_does, .inl (G 0, 12, .inl t_does)), (q_t_bad, .inl (G 0, 36, .inl t_bad)), (q_t_pad, .inl (G 0, 60, .inl t_pad)), (q_t_then, .inl (G 0, 18, .inl o14)), (q_t_ahead, .inl (G 0, 6, .inl o15))] := hD
      refine lv_istore_n (lv' := [(2, .int r7), (0, .ref q_t), (1, .int v1)]) hx hb dX8_judge_26 rfl hl (by decide) rfl (fun ls hl => ?_)
      refine lv_iload_n hx hb dX8_judge_27 rfl (lv_at hl 0 rfl) ?_
      refine lv_if_lt (tgt := 35) hx hb dX8_judge_28 (by decide) (fun c17 => ?_) (fun c17 => ?_)
      · have hf := ifp c17 hf
        refine lv_iload_n hx hb dX8_judge_35 rfl (lv_at hl 0 rfl) ?_
        refine lv_goto (tgt := 43) hx hb dX8_judge_36 (by decide) ?_
        exact RT _ _ _ _ _ _ _ _ _ hf _ _ _ H locs dX8_judge_43 (rkI _) hP hD hS
      · have hf := ifn c17 hf
        refine lv_iload_n hx hb dX8_judge_31 rfl (lv_at hl 2 rfl) ?_
        refine lv_if_ne (tgt := 39) hx hb dX8_judge_32 (by decide) (fun c18 => ?_) (fun c18 => ?_)
        · have hf := ifn c18 hf
          refine lv_aload_n hx hb dX8_judge_39 rfl (lv_at hl 1 rfl) ?_
          refine va_get (D := D) (ci := 8) (v := .int o11) (C := RX8) (T := TX8) (N := 23) hx hb hts inX8 hown hK hP 0 rfl rfl 15 (by decide) (hts _ lfX8_117) (fun _ h9 => h9) rfl dX8_judge_40 ?_
          exact RT _ _ _ _ _ _ _ _ _ hf _ _ _ H locs dX8_judge_43 (rkI _) hP hD hS
        · have hf := ifp c18 hf
          refine lv_iload_n hx hb dX8_judge_35 rfl (lv_at hl 0 rfl) ?_
          refine lv_goto (tgt := 43) hx hb dX8_judge_36 (by decide) ?_
          exact RT _ _ _ _ _ _ _ _ _ hf _ _ _ H locs dX8_judge_43 (rkI _) hP hD hS
    · have hf := ifn c6 hf
      refine lv_bipush (v := (-5 : Int32)) hx hb dX8_judge_19 (by decide) ?_
      exact RT _ _ _ _ _ _ _ _ _ hf _ _ _ H locs dX8_judge_21 (rkI _) hP hD hS
  · have hf := ifp c3 hf
    refine lv_bipush (v := (-2 : Int32)) hx hb dX8_judge_9 (by decide) ?_
    exact RT _ _ _ _ _ _ _ _ _ hf _ _ _ H locs dX8_judge_11 (rkI _) hP hD hS
