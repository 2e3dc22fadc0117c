set_option maxHeartbeats 4000000 in
set_option maxRecDepth 100000 in
theorem kX8_aloneIn (l : Launch) (D : va_G) (G : Nat → ClassId) (fu : Nat) (q_t q_t_book q_t_now q_t_does q_t_bad q_t_likes q_t_sight q_t_pad q_t_then q_t_ahead q_t_most q_t_worth q_t_damp q_t_next q_t_image q_t_isKept : Nat) (t_there : Int32) (t_sights : Int32) (t_signs : Int32) (t_worseAt : Int32) (t_worseWho : Int32) (t_hours : Int32) (t_reason : Int32) (t_acts : Int32) (t_book : Nat → Int32) (t_now : Nat → Int32) (t_does : Nat → Int32) (v1 : Int32) (v2 : Int32) {r : Int32} {o_t_now : Nat → Int32} (hf : fX8_aloneIn fu t_book t_now t_does v1 v2 = some (r, o_t_now)) : rW l D G yX8_aloneIn cX8_aloneIn 5 (some .int) 2 81 [.ref q_t, .int v1, .int v2] [(q_t, .inr (8, [.int t_there, .ref q_t_book, .ref q_t_now, .ref q_t_does, .ref q_t_bad, .ref q_t_likes, .int t_sights, .ref q_t_sight, .int t_signs, .ref q_t_pad, .ref q_t_then, .int t_worseAt, .int t_worseWho, .int t_hours, .ref q_t_ahead, .int t_reason, .int t_acts, .ref q_t_most, .ref q_t_worth, .ref q_t_damp, .ref q_t_next, .ref q_t_image, .ref q_t_isKept])), (q_t_book, .inl (G 0, 26, .inl t_book)), (q_t_now, .inl (G 0, 26, .inl t_now)), (q_t_does, .inl (G 0, 12, .inl t_does))] [(q_t, .inr (8, [.int t_there, .ref q_t_book, .ref q_t_now, .ref q_t_does, .ref q_t_bad, .ref q_t_likes, .int t_sights, .ref q_t_sight, .int t_signs, .ref q_t_pad, .ref q_t_then, .int t_worseAt, .int t_worseWho, .int t_hours, .ref q_t_ahead, .int t_reason, .int t_acts, .ref q_t_most, .ref q_t_worth, .ref q_t_damp, .ref q_t_next, .ref q_t_image, .ref q_t_isKept])), (q_t_book, .inl (G 0, 26, .inl t_book)), (q_t_now, .inl (G 0, 26, .inl o_t_now)), (q_t_does, .inl (G 0, 12, .inl t_does))] (some (.int r)) := by
  refine rW_of (by decide) (Nat.le_of_ble_eq_true rfl) ?_
  intro p e s m args below meth c Q A hx hb hml hown hts hK hn hA RET H locs hP hD hS ls hl
  have RT : ∀ (a0_ : Int32) (a1_ : Nat → Int32), some (a0_, a1_) = some (r, o_t_now) → ∀ (pc : Nat) (ls : Array Slot) (ins : Instr) (H : Heap) (locs : List Loc), decode cX8_aloneIn pc = .ok (ins, 1) → rk (some .int) (some (.int a0_)) ins → va_P D vwCl [(q_t, .inr (8, [.int t_there, .ref q_t_book, .ref q_t_now, .ref q_t_does, .ref q_t_bad, .ref q_t_likes, .int t_sights, .ref q_t_sight, .int t_signs, .ref q_t_pad, .ref q_t_then, .int t_worseAt, .int t_worseWho, .int t_hours, .ref q_t_ahead, .int t_reason, .int t_acts, .ref q_t_most, .ref q_t_worth, .ref q_t_damp, .ref q_t_next, .ref q_t_image, .ref q_t_isKept])), (q_t_book, .inl (G 0, 26, .inl t_book)), (q_t_now, .inl (G 0, 26, .inl a1_)), (q_t_does, .inl (G 0, 12, .inl t_does))] H → va_D A [(q_t, .inr (8, [.int t_there, .ref q_t_book, .ref q_t_now, .ref q_t_does, .ref q_t_bad, .ref q_t_likes, .int t_sights, .ref q_t_sight, .int t_signs, .ref q_t_pad, .ref q_t_then, .int t_worseAt, .int t_worseWho, .int t_hours, .ref q_t_ahead, .int t_reason, .int t_acts, .ref q_t_most, .ref q_t_worth, .ref q_t_damp, .ref q_t_next, .ref q_t_image, .ref q_t_isKept])), (q_t_book, .inl (G 0, 26, .inl t_book)), (q_t_now, .inl (G 0, 26, .inl a1_)), (q_t_does, .inl (G 0, 12, .inl t_does))] → va_S A s.heap H locs → W p l e (kR 2 81) s m args below meth c H locs 0 0 Q (F0 m pc ls [.int a0_]) := by
    intro a0_ a1_ hy; obtain ⟨rfl, rfl⟩ := sm2 hy
    exact RET
  have hown : s.vm.findClass RX8 = some m.cls := hown
  have hl : lv_has ls 5 [(0, .ref q_t), (1, .int v1), (2, .int v2)] := hl
  clear RET
  rw [fX8_aloneIn] at hf
  refine lv_iconst (v := (0 : Int32)) hx hb dX8_aloneIn_0 (by decide) ?_
  refine lv_istore_n (lv' := [(3, .int (0 : Int32)), (0, .ref q_t), (1, .int v1), (2, .int v2)]) hx hb dX8_aloneIn_1 rfl hl (by decide) rfl (fun ls hl => ?_)
  obtain ⟨u21, h25, hf⟩ := bd1E hf
  have E22 : ∀ (z32 : Nat → Int32), some z32 = some u21 → ∀ (H : Heap) (locs : List Loc), va_P D vwCl [(q_t, .inr (8, [.int t_there, .ref q_t_book, .ref q_t_now, .ref q_t_does, .ref q_t_bad, .ref q_t_likes, .int t_sights, .ref q_t_sight, .int t_signs, .ref q_t_pad, .ref q_t_then, .int t_worseAt, .int t_worseWho, .int t_hours, .ref q_t_ahead, .int t_reason, .int t_acts, .ref q_t_most, .ref q_t_worth, .ref q_t_damp, .ref q_t_next, .ref q_t_image, .ref q_t_isKept])), (q_t_book, .inl (G 0, 26, .inl t_book)), (q_t_now, .inl (G 0, 26, .inl z32)), (q_t_does, .inl (G 0, 12, .inl t_does))] H → va_D A [(q_t, .inr (8, [.int t_there, .ref q_t_book, .ref q_t_now, .ref q_t_does, .ref q_t_bad, .ref q_t_likes, .int t_sights, .ref q_t_sight, .int t_signs, .ref q_t_pad, .ref q_t_then, .int t_worseAt, .int t_worseWho, .int t_hours, .ref q_t_ahead, .int t_reason, .int t_acts, .ref q_t_most, .ref q_t_worth, .ref q_t_damp, .ref q_t_next, .ref q_t_image, .ref q_t_isKept])), (q_t_book, .inl (G 0, 26, .inl t_book)), (q_t_now, .inl (G 0, 26, .inl z32)), (q_t_does, .inl (G 0, 12, .inl t_does))] → va_S A s.heap H locs → ∀ ls : Array Slot, lv_has ls 5 [(0, .ref q_t), (1, .int v1), (2, .int v2)] → W p l e (kR 2 81) s m args below meth c H locs 0 0 Q (F0 m 33 ls []) := by
    intro z32 hy; obtain rfl := sm1 hy
    intro H locs hP hD hS ls hl
    refine lv_iconst (v := (0 : Int32)) hx hb dX8_aloneIn_33 (by decide) ?_
    refine lv_istore_n (lv' := [(3, .int (0 : Int32)), (0, .ref q_t), (1, .int v1), (2, .int v2)]) hx hb dX8_aloneIn_34 rfl hl (by decide) rfl (fun ls hl => ?_)
    obtain ⟨z96, h97, hr98, hc99⟩ := br1E hf
    have E94 : ∀ (z144 : Nat → Int32), some (Sum.inr z144) = some z96 → ∀ (H : Heap) (locs : List Loc), va_P D vwCl [(q_t, .inr (8, [.int t_there, .ref q_t_book, .ref q_t_now, .ref q_t_does, .ref q_t_bad, .ref q_t_likes, .int t_sights, .ref q_t_sight, .int t_signs, .ref q_t_pad, .ref q_t_then, .int t_worseAt, .int t_worseWho, .int t_hours, .ref q_t_ahead, .int t_reason, .int t_acts, .ref q_t_most, .ref q_t_worth, .ref q_t_damp, .ref q_t_next, .ref q_t_image, .ref q_t_isKept])), (q_t_book, .inl (G 0, 26, .inl t_book)), (q_t_now, .inl (G 0, 26, .inl z144)), (q_t_does, .inl (G 0, 12, .inl t_does))] H → va_D A [(q_t, .inr (8, [.int t_there, .ref q_t_book, .ref q_t_now, .ref q_t_does, .ref q_t_bad, .ref q_t_likes, .int t_sights, .ref q_t_sight, .int t_signs, .ref q_t_pad, .ref q_t_then, .int t_worseAt, .int t_worseWho, .int t_hours, .ref q_t_ahead, .int t_reason, .int t_acts, .ref q_t_most, .ref q_t_worth, .ref q_t_damp, .ref q_t_next, .ref q_t_image, .ref q_t_isKept])), (q_t_book, .inl (G 0, 26, .inl t_book)), (q_t_now, .inl (G 0, 26, .inl z144)), (q_t_does, .inl (G 0, 12, .inl t_does))] → va_S A s.heap H locs → ∀ ls : Array Slot, lv_has ls 5 [] → W p l e (kR 2 81) s m args below meth c H locs 0 0 Q (F0 m 109 ls []) := by
      intro z144 hy; have hf := hc99 z144 hy
      intro H locs hP hD hS ls hl
      refine lv_ldc (v := (1000000 : Int32)) hx hb hown (hts _ lcX8_133) dX8_aloneIn_109 ?_
      exact RT _ _ hf _ _ _ H locs dX8_aloneIn_111 (rkI _) hP hD hS
    have L95 : ∀ (k : Nat) (w91 : Int32) (w92 : Nat → Int32), fX8_aloneIn_35 fu v1 t_does v2 k w91 w92 = some z96 → ∀ (H : Heap) (locs : List Loc), va_P D vwCl [(q_t, .inr (8, [.int t_there, .ref q_t_book, .ref q_t_now, .ref q_t_does, .ref q_t_bad, .ref q_t_likes, .int t_sights, .ref q_t_sight, .int t_signs, .ref q_t_pad, .ref q_t_then, .int t_worseAt, .int t_worseWho, .int t_hours, .ref q_t_ahead, .int t_reason, .int t_acts, .ref q_t_most, .ref q_t_worth, .ref q_t_damp, .ref q_t_next, .ref q_t_image, .ref q_t_isKept])), (q_t_book, .inl (G 0, 26, .inl t_book)), (q_t_now, .inl (G 0, 26, .inl w92)), (q_t_does, .inl (G 0, 12, .inl t_does))] H → va_D A [(q_t, .inr (8, [.int t_there, .ref q_t_book, .ref q_t_now, .ref q_t_does, .ref q_t_bad, .ref q_t_likes, .int t_sights, .ref q_t_sight, .int t_signs, .ref q_t_pad, .ref q_t_then, .int t_worseAt, .int t_worseWho, .int t_hours, .ref q_t_ahead, .int t_reason, .int t_acts, .ref q_t_most, .ref q_t_worth, .ref q_t_damp, .ref q_t_next, .ref q_t_image, .ref q_t_isKept])), (q_t_book, .inl (G 0, 26, .inl t_book)), (q_t_now, .inl (G 0, 26, .inl w92)), (q_t_does, .inl (G 0, 12, .inl t_does))] → va_S A s.heap H locs → ∀ ls : Array Slot, lv_has ls 5 [(0, .ref q_t), (1, .int v1), (2, .int v2), (3, .int w91)] → W p l e (kR 2 81) s m args below meth c H locs 0 0 Q (F0 m 35 ls []) := by
      intro k; induction k with
      | zero => intro w91 w92 hf; exact nosome hf
      | succ k ih =>
        intro w91 w92 hf; rw [fX8_aloneIn_35] at hf
        intro H locs hP hD hS ls hl
        refine lv_iload_n hx hb dX8_aloneIn_35 rfl (lv_at hl 3 rfl) ?_
        refine lv_bipush (v := (61 : Int32)) hx hb dX8_aloneIn_36 (by decide) ?_
        refine lv_icmp_ge (tgt := 109) hx hb dX8_aloneIn_38 (by decide) (fun c100 => ?_) (fun c100 => ?_)
        · have hf := ifp c100 hf
          exact E94 _ hf H locs hP hD hS ls (lv_sub hl [] rfl)
        · have hf := ifn c100 hf
          refine lv_aload_n hx hb dX8_aloneIn_41 rfl (lv_at hl 0 rfl) ?_
          refine lv_iload_n hx hb dX8_aloneIn_42 rfl (lv_at hl 1 rfl) ?_
          obtain ⟨r101, h102, hf⟩ := bd1E hf
          refine kO_virt hx hb hml hown hts hK hn hP (kX8_illsOf l D G q_t q_t_book q_t_now q_t_does q_t_bad q_t_likes q_t_sight q_t_pad q_t_then q_t_ahead q_t_most q_t_worth q_t_damp q_t_next q_t_image q_t_isKept t_there t_sights t_signs t_worseAt t_worseWho t_hours t_reason t_acts w92 v1 h102) cvX8_90 ⟨Nat.le_of_ble_eq_true rfl, Nat.le_of_ble_eq_true rfl⟩ [0, 2] rfl 0 rfl rfl rfl hl.1 rfl (Nat.le_of_ble_eq_true rfl) ⟨Nat.zero_le _, Nat.zero_le _⟩ dX8_aloneIn_43 ?_
          refine lv_if_ne (tgt := 51) hx hb dX8_aloneIn_46 (by decide) (fun c103 => ?_) (fun c103 => ?_)
          · have hf := ifn c103 hf
            refine lv_iconst (v := (0 : Int32)) hx hb dX8_aloneIn_51 (by decide) ?_
            refine lv_istore (lv' := [(4, .int (0 : Int32)), (0, .ref q_t), (1, .int v1), (2, .int v2), (3, .int w91)]) hx hb dX8_aloneIn_52 hl (by decide) rfl (fun ls hl => ?_)
            obtain ⟨u128, h132, hf⟩ := bd1E hf
            have E129 : ∀ (z142 : Nat → Int32), some z142 = some u128 → ∀ (H : Heap) (locs : List Loc), va_P D vwCl [(q_t, .inr (8, [.int t_there, .ref q_t_book, .ref q_t_now, .ref q_t_does, .ref q_t_bad, .ref q_t_likes, .int t_sights, .ref q_t_sight, .int t_signs, .ref q_t_pad, .ref q_t_then, .int t_worseAt, .int t_worseWho, .int t_hours, .ref q_t_ahead, .int t_reason, .int t_acts, .ref q_t_most, .ref q_t_worth, .ref q_t_damp, .ref q_t_next, .ref q_t_image, .ref q_t_isKept])), (q_t_book, .inl (G 0, 26, .inl t_book)), (q_t_now, .inl (G 0, 26, .inl z142)), (q_t_does, .inl (G 0, 12, .inl t_does))] H → va_D A [(q_t, .inr (8, [.int t_there, .ref q_t_book, .ref q_t_now, .ref q_t_does, .ref q_t_bad, .ref q_t_likes, .int t_sights, .ref q_t_sight, .int t_signs, .ref q_t_pad, .ref q_t_then, .int t_worseAt, .int t_worseWho, .int t_hours, .ref q_t_ahead, .int t_reason, .int t_acts, .ref q_t_most, .ref q_t_worth, .ref q_t_damp, .ref q_t_next, .ref q_t_image, .ref q_t_isKept])), (q_t_book, .inl (G 0, 26, .inl t_book)), (q_t_now, .inl (G 0, 26, .inl z142)), (q_t_does, .inl (G 0, 12, .inl t_does))] → va_S A s.heap H locs → ∀ ls : Array Slot, lv_has ls 5 [(0, .ref q_t), (1, .int v1), (2, .int v2), (3, .int w91)] → W p l e (kR 2 81) s m args below meth c H locs 0 0 Q (F0 m 103 ls []) := by
              intro z142 hy; obtain rfl := sm1 hy
              intro H locs hP hD hS ls hl
              obtain ⟨y143, ey143⟩ : ∃ y : Int32, y = w91 + (1 : Int32) := ⟨_, rfl⟩
              have hf := nmeU ey143 hf
              refine lv_iinc (v := y143) (lv' := [(3, .int y143), (0, .ref q_t), (1, .int v1), (2, .int v2)]) hx hb dX8_aloneIn_103 hl (k := 3) rfl (by rw [ey143]; rfl) (by decide) rfl (fun ls hl => ?_)
              refine lv_goto (tgt := 35) hx hb dX8_aloneIn_106 (by decide) ?_
              exact ih _ _ hf H locs hP hD hS ls (lv_sub hl [1, 2, 3, 0] rfl)
            have L130 : ∀ (k : Nat) (w126 : Int32) (w127 : Nat → Int32), fX8_aloneIn_54 v1 t_does v2 k w126 w127 = some u128 → ∀ (H : Heap) (locs : List Loc), va_P D vwCl [(q_t, .inr (8, [.int t_there, .ref q_t_book, .ref q_t_now, .ref q_t_does, .ref q_t_bad, .ref q_t_likes, .int t_sights, .ref q_t_sight, .int t_signs, .ref q_t_pad, .ref q_t_then, .int t_worseAt, .int t_worseWho, .int t_hours, .ref q_t_ahead, .int t_reason, .int t_acts, .ref q_t_most, .ref q_t_worth, .ref q_t_damp, .ref q_t_next, .ref q_t_image, .ref q_t_isKept])), (q_t_book, .inl (G 0, 26, .inl t_book)), (q_t_now, .inl (G 0, 26, .inl w127)), (q_t_does, .inl (G 0, 12, .inl t_does))] H → va_D A [(q_t, .inr (8, [.int t_there, .ref q_t_book, .ref q_t_now, .ref q_t_does, .ref q_t_bad, .ref q_t_likes, .int t_sights, .ref q_t_sight, .int t_signs, .ref q_t_pad, .ref q_t_then, .int t_worseAt, .int t_worseWho, .int t_hours, .ref q_t_ahead, .int t_reason, .int t_acts, .ref q_t_most, .ref q_t_worth, .ref q_t_damp, .ref q_t_next, .ref q_t_image, .ref q_t_isKept])), (q_t_book, .inl (G 0, 26, .inl t_book)), (q_t_now, .inl (G 0, 26, .inl w127)), (q_t_does, .inl (G 0, 12, .inl t_does))] → va_S A s.heap H locs → ∀ ls : Array Slot, lv_has ls 5 [(0, .ref q_t), (1, .int v1), (2, .int v2), (3, .int w91), (4, .int w126)] → W p l e (kR 2 81) s m args below meth c H locs 0 0 Q (F0 m 54 ls []) := by
              intro k; induction k with
              | zero => intro w126 w127 hf; exact nosome hf
              | succ k ih =>
                intro w126 w127 hf; rw [fX8_aloneIn_54] at hf
                intro H locs hP hD hS ls hl
                refine lv_iload hx hb dX8_aloneIn_54 (lv_at hl 4 rfl) ?_
                refine lv_iconst (v := (3 : Int32)) hx hb dX8_aloneIn_56 (by decide) ?_
                refine lv_icmp_ge (tgt := 103) hx hb dX8_aloneIn_57 (by decide) (fun c135 => ?_) (fun c135 => ?_)
                · have hf := ifp c135 hf
                  exact E129 _ hf H locs hP hD hS ls (lv_sub hl [0, 1, 2, 3] rfl)
                · have hf := ifn c135 hf
                  refine lv_aload_n hx hb dX8_aloneIn_60 rfl (lv_at hl 0 rfl) ?_
                  refine va_get (D := D) (ci := 8) (v := .ref q_t_now) (C := RX8) (T := TX8) (N := 23) hx hb hts inX8 hown hK hP 0 rfl rfl 2 (by decide) (hts _ lfX8_13) (fun _ h9 => h9) rfl dX8_aloneIn_61 ?_
                  refine lv_iconst (v := (3 : Int32)) hx hb dX8_aloneIn_64 (by decide) ?_
                  refine lv_iload_n hx hb dX8_aloneIn_65 rfl (lv_at hl 1 rfl) ?_
                  refine lv_imul hx hb dX8_aloneIn_66 ?_
                  refine lv_iload hx hb dX8_aloneIn_67 (lv_at hl 4 rfl) ?_
                  refine lv_iadd hx hb dX8_aloneIn_69 ?_
                  refine lv_aload_n hx hb dX8_aloneIn_70 rfl (lv_at hl 0 rfl) ?_
                  refine va_get (D := D) (ci := 8) (v := .ref q_t_now) (C := RX8) (T := TX8) (N := 23) hx hb hts inX8 hown hK hP 0 rfl rfl 2 (by decide) (hts _ lfX8_13) (fun _ h9 => h9) rfl dX8_aloneIn_71 ?_
                  refine lv_iconst (v := (3 : Int32)) hx hb dX8_aloneIn_74 (by decide) ?_
                  refine lv_iload_n hx hb dX8_aloneIn_75 rfl (lv_at hl 1 rfl) ?_
                  refine lv_imul hx hb dX8_aloneIn_76 ?_
                  refine lv_iload hx hb dX8_aloneIn_77 (lv_at hl 4 rfl) ?_
                  refine lv_iadd hx hb dX8_aloneIn_79 ?_
                  obtain ⟨x136, ex136, ix136, hf⟩ := ldIE hf
                  refine k_iald hx hb hK hP 2 0 rfl rfl ix136 ex136 dX8_aloneIn_80 ?_
                  refine lv_aload_n hx hb dX8_aloneIn_81 rfl (lv_at hl 0 rfl) ?_
                  refine va_get (D := D) (ci := 8) (v := .ref q_t_does) (C := RX8) (T := TX8) (N := 23) hx hb hts inX8 hown hK hP 0 rfl rfl 3 (by decide) (hts _ lfX8_16) (fun _ h9 => h9) rfl dX8_aloneIn_82 ?_
                  refine lv_iconst (v := (3 : Int32)) hx hb dX8_aloneIn_85 (by decide) ?_
                  refine lv_iload_n hx hb dX8_aloneIn_86 rfl (lv_at hl 2 rfl) ?_
                  refine lv_imul hx hb dX8_aloneIn_87 ?_
                  refine lv_iload hx hb dX8_aloneIn_88 (lv_at hl 4 rfl) ?_
                  refine lv_iadd hx hb dX8_aloneIn_90 ?_
                  obtain ⟨x137, ex137, ix137, hf⟩ := ldIE hf
                  refine k_iald hx hb hK hP 3 0 rfl rfl ix137 ex137 dX8_aloneIn_91 ?_
                  refine lv_iadd hx hb dX8_aloneIn_92 ?_
                  obtain ⟨r138, h139, hf⟩ := bd1E hf
                  refine kO_stat hx hb hml hown hts hK hn hP (kX8_clip l D G (x136 + x137) h139) csX8_87 ⟨Nat.le_of_ble_eq_true rfl, Nat.le_of_ble_eq_true rfl⟩ [] rfl rfl hl.1 rfl (Nat.le_of_ble_eq_true rfl) ⟨Nat.zero_le _, Nat.zero_le _⟩ dX8_aloneIn_93 ?_
                  obtain ⟨g140, eg140, ig140, hf⟩ := stIE hf
                  refine k_iast hx hb hK hP hD hS 2 0 rfl rfl ig140 eg140 dX8_aloneIn_96 (fun H locs hP hD hS => ?_)
                  have hP : va_P D vwCl [(q_t, .inr (8, [.int t_there, .ref q_t_book, .ref q_t_now, .ref q_t_does, .ref q_t_bad, .ref q_t_likes, .int t_sights, .ref q_t_sight, .int t_signs, .ref q_t_pad, .ref q_t_then, .int t_worseAt, .int t_worseWho, .int t_hours, .ref q_t_ahead, .int t_reason, .int t_acts, .ref q_t_most, .ref q_t_worth, .ref q_t_damp, .ref q_t_next, .ref q_t_image, .ref q_t_isKept])), (q_t_book, .inl (G 0, 26, .inl t_book)), (q_t_now, .inl (G 0, 26, .inl g140)), (q_t_does, .inl (G 0, 12, .inl t_does))] H := hP
                  have hD : va_D A [(q_t, .inr (8, [.int t_there, .ref q_t_book, .ref q_t_now, .ref q_t_does, .ref q_t_bad, .ref q_t_likes, .int t_sights, .ref q_t_sight, .int t_signs, .ref q_t_pad, .ref q_t_then, .int t_worseAt, .int t_worseWho, .int t_hours, .ref q_t_ahead, .int t_reason, .int t_acts, .ref q_t_most, .ref q_t_worth, .ref q_t_damp, .ref q_t_next, .ref q_t_image, .ref q_t_isKept])), (q_t_book, .inl (G 0, 26, .inl t_book)), (q_t_now, .inl (G 0, 26, .inl g140)), (q_t_does, .inl (G 0, 12, .inl t_does))] := hD
                  obtain ⟨y141, ey141⟩ : ∃ y : Int32, y = w126 + (1 : Int32) := ⟨_, rfl⟩
                  have hf := nmeU ey141 hf
                  refine lv_iinc (v := y141) (lv' := [(4, .int y141), (0, .ref q_t), (1, .int v1), (2, .int v2), (3, .int w91)]) hx hb dX8_aloneIn_97 hl (k := 4) rfl (by rw [ey141]; rfl) (by decide) rfl (fun ls hl => ?_)
                  refine lv_goto (tgt := 54) hx hb dX8_aloneIn_100 (by decide) ?_
                  exact ih _ _ hf H locs hP hD hS ls (lv_sub hl [1, 2, 3, 4, 0] rfl)
            exact L130 fu (0 : Int32) w92 h132 H locs hP hD hS ls (lv_sub hl [1, 2, 3, 4, 0] rfl)
          · have hf := ifp c103 hf
            refine lv_iload_n hx hb dX8_aloneIn_49 rfl (lv_at hl 3 rfl) ?_
            have hf := hr98 _ hf
            exact RT _ _ hf _ _ _ H locs dX8_aloneIn_50 (rkI _) hP hD hS
    exact L95 fu (0 : Int32) z32 h97 H locs hP hD hS ls (lv_sub hl [1, 2, 3, 0] rfl)
  have L23 : ∀ (k : Nat) (w19 : Int32) (w20 : Nat → Int32), fX8_aloneIn_2 t_book v1 k w19 w20 = some u21 → ∀ (H : Heap) (locs : List Loc), va_P D vwCl [(q_t, .inr (8, [.int t_there, .ref q_t_book, .ref q_t_now, .ref q_t_does, .ref q_t_bad, .ref q_t_likes, .int t_sights, .ref q_t_sight, .int t_signs, .ref q_t_pad, .ref q_t_then, .int t_worseAt, .int t_worseWho, .int t_hours, .ref q_t_ahead, .int t_reason, .int t_acts, .ref q_t_most, .ref q_t_worth, .ref q_t_damp, .ref q_t_next, .ref q_t_image, .ref q_t_isKept])), (q_t_book, .inl (G 0, 26, .inl t_book)), (q_t_now, .inl (G 0, 26, .inl w20)), (q_t_does, .inl (G 0, 12, .inl t_does))] H → va_D A [(q_t, .inr (8, [.int t_there, .ref q_t_book, .ref q_t_now, .ref q_t_does, .ref q_t_bad, .ref q_t_likes, .int t_sights, .ref q_t_sight, .int t_signs, .ref q_t_pad, .ref q_t_then, .int t_worseAt, .int t_worseWho, .int t_hours, .ref q_t_ahead, .int t_reason, .int t_acts, .ref q_t_most, .ref q_t_worth, .ref q_t_damp, .ref q_t_next, .ref q_t_image, .ref q_t_isKept])), (q_t_book, .inl (G 0, 26, .inl t_book)), (q_t_now, .inl (G 0, 26, .inl w20)), (q_t_does, .inl (G 0, 12, .inl t_does))] → va_S A s.heap H locs → ∀ ls : Array Slot, lv_has ls 5 [(0, .ref q_t), (1, .int v1), (2, .int v2), (3, .int w19)] → W p l e (kR 2 81) s m args below meth c H locs 0 0 Q (F0 m 2 ls []) := by
    intro k; induction k with
    | zero => intro w19 w20 hf; exact nosome hf
    | succ k ih =>
      intro w19 w20 hf; rw [fX8_aloneIn_2] at hf
      intro H locs hP hD hS ls hl
      refine lv_iload_n hx hb dX8_aloneIn_2 rfl (lv_at hl 3 rfl) ?_
      refine lv_iconst (v := (3 : Int32)) hx hb dX8_aloneIn_3 (by decide) ?_
      refine lv_icmp_ge (tgt := 33) hx hb dX8_aloneIn_4 (by decide) (fun c28 => ?_) (fun c28 => ?_)
      · have hf := ifp c28 hf
        exact E22 _ hf H locs hP hD hS ls (lv_sub hl [0, 1, 2] rfl)
      · have hf := ifn c28 hf
        refine lv_aload_n hx hb dX8_aloneIn_7 rfl (lv_at hl 0 rfl) ?_
        refine va_get (D := D) (ci := 8) (v := .ref q_t_now) (C := RX8) (T := TX8) (N := 23) hx hb hts inX8 hown hK hP 0 rfl rfl 2 (by decide) (hts _ lfX8_13) (fun _ h9 => h9) rfl dX8_aloneIn_8 ?_
        refine lv_iconst (v := (3 : Int32)) hx hb dX8_aloneIn_11 (by decide) ?_
        refine lv_iload_n hx hb dX8_aloneIn_12 rfl (lv_at hl 1 rfl) ?_
        refine lv_imul hx hb dX8_aloneIn_13 ?_
        refine lv_iload_n hx hb dX8_aloneIn_14 rfl (lv_at hl 3 rfl) ?_
        refine lv_iadd hx hb dX8_aloneIn_15 ?_
        refine lv_aload_n hx hb dX8_aloneIn_16 rfl (lv_at hl 0 rfl) ?_
        refine va_get (D := D) (ci := 8) (v := .ref q_t_book) (C := RX8) (T := TX8) (N := 23) hx hb hts inX8 hown hK hP 0 rfl rfl 1 (by decide) (hts _ lfX8_7) (fun _ h9 => h9) rfl dX8_aloneIn_17 ?_
        refine lv_iconst (v := (3 : Int32)) hx hb dX8_aloneIn_20 (by decide) ?_
        refine lv_iload_n hx hb dX8_aloneIn_21 rfl (lv_at hl 1 rfl) ?_
        refine lv_imul hx hb dX8_aloneIn_22 ?_
        refine lv_iload_n hx hb dX8_aloneIn_23 rfl (lv_at hl 3 rfl) ?_
        refine lv_iadd hx hb dX8_aloneIn_24 ?_
        obtain ⟨x29, ex29, ix29, hf⟩ := ldIE hf
        refine k_iald hx hb hK hP 1 0 rfl rfl ix29 ex29 dX8_aloneIn_25 ?_
        obtain ⟨g30, eg30, ig30, hf⟩ := stIE hf
        refine k_iast hx hb hK hP hD hS 2 0 rfl rfl ig30 eg30 dX8_aloneIn_26 (fun H locs hP hD hS => ?_)
        have hP : va_P D vwCl [(q_t, .inr (8, [.int t_there, .ref q_t_book, .ref q_t_now, .ref q_t_does, .ref q_t_bad, .ref q_t_likes, .int t_sights, .ref q_t_sight, .int t_signs, .ref q_t_pad, .ref q_t_then, .int t_worseAt, .int t_worseWho, .int t_hours, .ref q_t_ahead, .int t_reason, .int t_acts, .ref q_t_most, .ref q_t_worth, .ref q_t_damp, .ref q_t_next, .ref q_t_image, .ref q_t_isKept])), (q_t_book, .inl (G 0, 26, .inl t_book)), (q_t_now, .inl (G 0, 26, .inl g30)), (q_t_does, .inl (G 0, 12, .inl t_does))] H := hP
        have hD : va_D A [(q_t, .inr (8, [.int t_there, .ref q_t_book, .ref q_t_now, .ref q_t_does, .ref q_t_bad, .ref q_t_likes, .int t_sights, .ref q_t_sight, .int t_signs, .ref q_t_pad, .ref q_t_then, .int t_worseAt, .int t_worseWho, .int t_hours, .ref q_t_ahead, .int t_reason, .int t_acts, .ref q_t_most, .ref q_t_worth, .ref q_t_damp, .ref q_t_next, .ref q_t_image, .ref q_t_isKept])), (q_t_book, .inl (G 0, 26, .inl t_book)), (q_t_now, .inl (G 0, 26, .inl g30)), (q_t_does, .inl (G 0, 12, .inl t_does))] := hD
        obtain ⟨y31, ey31⟩ : ∃ y : Int32, y = w19 + (1 : Int32) := ⟨_, rfl⟩
        have hf := nmeU ey31 hf
        refine lv_iinc (v := y31) (lv' := [(3, .int y31), (0, .ref q_t), (1, .int v1), (2, .int v2)]) hx hb dX8_aloneIn_27 hl (k := 3) rfl (by rw [ey31]; rfl) (by decide) rfl (fun ls hl => ?_)
        refine lv_goto (tgt := 2) hx hb dX8_aloneIn_30 (by decide) ?_
        exact ih _ _ hf H locs hP hD hS ls (lv_sub hl [1, 2, 3, 0] rfl)
  exact L23 fu (0 : Int32) t_now h25 H locs hP hD hS ls (lv_sub hl [1, 2, 3, 0] rfl)
set_option maxHeartbeats 4000000 in
set_option maxRecDepth 100000 in
theorem kX8_alone (l : Launch) (D : va_G) (G : Nat → ClassId) (fu : Nat) (q_t q_t_book q_t_now q_t_does q_t_bad q_t_likes q_t_sight q_t_pad q_t_then q_t_ahead q_t_most q_t_worth q_t_damp q_t_next q_t_image q_t_isKept : Nat) (t_there : Int32) (t_sights : Int32) (t_signs : Int32) (t_worseAt : Int32) (t_worseWho : Int32) (t_hours : Int32) (t_reason : Int32) (t_acts : Int32) (t_book : Nat → Int32) (t_now : Nat → Int32) (t_does : Nat → Int32) (v1 : Int32) (v2 : Int32) {r : Int32} {o_t_now : Nat → Int32} (hf : fX8_alone fu t_there t_book t_now t_does v1 v2 = some (r, o_t_now)) : rW l D G yX8_alone cX8_alone 7 (some .int) 3 105 [.ref q_t, .int v1, .int v2] [(q_t, .inr (8, [.int t_there, .ref q_t_book, .ref q_t_now, .ref q_t_does, .ref q_t_bad, .ref q_t_likes, .int t_sights, .ref q_t_sight, .int t_signs, .ref q_t_pad, .ref q_t_then, .int t_worseAt, .int t_worseWho, .int t_hours, .ref q_t_ahead, .int t_reason, .int t_acts, .ref q_t_most, .ref q_t_worth, .ref q_t_damp, .ref q_t_next, .ref q_t_image, .ref q_t_isKept])), (q_t_book, .inl (G 0, 26, .inl t_book)), (q_t_now, .inl (G 0, 26, .inl t_now)), (q_t_does, .inl (G 0, 12, .inl t_does))] [(q_t, .inr (8, [.int t_there, .ref q_t_book, .ref q_t_now, .ref q_t_does, .ref q_t_bad, .ref q_t_likes, .int t_sights, .ref q_t_sight, .int t_signs, .ref q_t_pad, .ref q_t_then, .int t_worseAt, .int t_worseWho, .int t_hours, .ref q_t_ahead, .int t_reason, .int t_acts, .ref q_t_most, .ref q_t_worth, .ref q_t_damp, .ref q_t_next, .ref q_t_image, .ref q_t_isKept])), (q_t_book, .inl (G 0, 26, .inl t_book)), (q_t_now, .inl (G 0, 26, .inl o_t_now)), (q_t_does, .inl (G 0, 12, .inl t_does))] (some (.int r)) := by
  refine rW_of (by decide) (Nat.le_of_ble_eq_true rfl) ?_
  intro p e s m args below meth c Q A hx hb hml hown hts hK hn hA RET H locs hP hD hS ls hl
  have RT : ∀ (a0_ : Int32) (a1_ : Nat → Int32), some (a0_, a1_) = some (r, o_t_now) → ∀ (pc : Nat) (ls : Array Slot) (ins : Instr) (H : Heap) (locs : List Loc), decode cX8_alone pc = .ok (ins, 1) → rk (some .int) (some (.int a0_)) ins → va_P D vwCl [(q_t, .inr (8, [.int t_there, .ref q_t_book, .ref q_t_now, .ref q_t_does, .ref q_t_bad, .ref q_t_likes, .int t_sights, .ref q_t_sight, .int t_signs, .ref q_t_pad, .ref q_t_then, .int t_worseAt, .int t_worseWho, .int t_hours, .ref q_t_ahead, .int t_reason, .int t_acts, .ref q_t_most, .ref q_t_worth, .ref q_t_damp, .ref q_t_next, .ref q_t_image, .ref q_t_isKept])), (q_t_book, .inl (G 0, 26, .inl t_book)), (q_t_now, .inl (G 0, 26, .inl a1_)), (q_t_does, .inl (G 0, 12, .inl t_does))] H → va_D A [(q_t, .inr (8, [.int t_there, .ref q_t_book, .ref q_t_now, .ref q_t_does, .ref q_t_bad, .ref q_t_likes, .int t_sights, .ref q_t_sight, .int t_signs, .ref q_t_pad, .ref q_t_then, .int t_worseAt, .int t_worseWho, .int t_hours, .ref q_t_ahead, .int t_reason, .int t_acts, .ref q_t_most, .ref q_t_worth, .ref q_t_damp, .ref q_t_next, .ref q_t_image, .ref q_t_isKept])), (q_t_book, .inl (G 0, 26, .inl t_book)), (q_t_now, .inl (G 0, 26, .inl a1_)), (q_t_does, .inl (G 0, 12, .inl t_does))] → va_S A s.heap H locs → W p l e (kR 3 105) s m args below meth c H locs 0 0 Q (F0 m pc ls [.int a0_]) := by
    intro a0_ a1_ hy; obtain ⟨rfl, rfl⟩ := sm2 hy
    exact RET
  have hown : s.vm.findClass RX8 = some m.cls := hown
  have hl : lv_has ls 7 [(0, .ref q_t), (1, .int v1), (2, .int v2)] := hl
  clear RET
  rw [fX8_alone] at hf
  refine lv_aload_n hx hb dX8_alone_0 rfl (lv_at hl 0 rfl) ?_
  refine lv_iload_n hx hb dX8_alone_1 rfl (lv_at hl 1 rfl) ?_
  obtain ⟨r1, h2, hf⟩ := bd1E hf
  refine kO_virt hx hb hml hown hts hK hn hP (kX8_isThere l D G q_t q_t_book q_t_now q_t_does q_t_bad q_t_likes q_t_sight q_t_pad q_t_then q_t_ahead q_t_most q_t_worth q_t_damp q_t_next q_t_image q_t_isKept t_there t_sights t_signs t_worseAt t_worseWho t_hours t_reason t_acts v1 h2) cvX8_73 ⟨Nat.le_of_ble_eq_true rfl, Nat.le_of_ble_eq_true rfl⟩ [0] rfl 0 rfl rfl rfl hl.1 rfl (Nat.le_of_ble_eq_true rfl) ⟨Nat.zero_le _, Nat.zero_le _⟩ dX8_alone_2 ?_
  refine lv_if_ne (tgt := 10) hx hb dX8_alone_5 (by decide) (fun c3 => ?_) (fun c3 => ?_)
  · have hf := ifn c3 hf
    refine lv_iload_n hx hb dX8_alone_10 rfl (lv_at hl 2 rfl) ?_
    refine lv_iconst (v := (0 : Int32)) hx hb dX8_alone_11 (by decide) ?_
    refine lv_iconst (v := (1 : Int32)) hx hb dX8_alone_12 (by decide) ?_
    obtain ⟨r4, h5, hf⟩ := bd1E hf
    refine kO_stat hx hb hml hown hts hK hn hP (kX8_in l D G v2 (0 : Int32) (1 : Int32) h5) csX8_61 ⟨Nat.le_of_ble_eq_true rfl, Nat.le_of_ble_eq_true rfl⟩ [] rfl rfl hl.1 rfl (Nat.le_of_ble_eq_true rfl) ⟨Nat.zero_le _, Nat.zero_le _⟩ dX8_alone_13 ?_
    refine lv_if_ne (tgt := 22) hx hb dX8_alone_16 (by decide) (fun c6 => ?_) (fun c6 => ?_)
    · have hf := ifn c6 hf
      refine lv_bipush (v := (-6 : Int32)) hx hb dX8_alone_22 (by decide) ?_
      refine lv_istore_n (lv' := [(3, .int (-6 : Int32)), (0, .ref q_t), (1, .int v1), (2, .int v2)]) hx hb dX8_alone_24 rfl hl (by decide) rfl (fun ls hl => ?_)
      refine lv_ldc (v := (1000000 : Int32)) hx hb hown (hts _ lcX8_133) dX8_alone_25 ?_
      refine lv_istore (lv' := [(4, .int (1000000 : Int32)), (3, .int (-6 : Int32)), (0, .ref q_t), (1, .int v1), (2, .int v2)]) hx hb dX8_alone_27 hl (by decide) rfl (fun ls hl => ?_)
      refine lv_iconst (v := (0 : Int32)) hx hb dX8_alone_29 (by decide) ?_
      refine lv_istore (lv' := [(5, .int (0 : Int32)), (4, .int (1000000 : Int32)), (3, .int (-6 : Int32)), (0, .ref q_t), (1, .int v1), (2, .int v2)]) hx hb dX8_alone_30 hl (by decide) rfl (fun ls hl => ?_)
      obtain ⟨u44, u45, u46, h50, hf⟩ := bd3E hf
      have E47 : ∀ (z70 : Int32) (z71 : Int32) (z72 : Nat → Int32), some (z70, z71, z72) = some (u44, u45, u46) → ∀ (H : Heap) (locs : List Loc), va_P D vwCl [(q_t, .inr (8, [.int t_there, .ref q_t_book, .ref q_t_now, .ref q_t_does, .ref q_t_bad, .ref q_t_likes, .int t_sights, .ref q_t_sight, .int t_signs, .ref q_t_pad, .ref q_t_then, .int t_worseAt, .int t_worseWho, .int t_hours, .ref q_t_ahead, .int t_reason, .int t_acts, .ref q_t_most, .ref q_t_worth, .ref q_t_damp, .ref q_t_next, .ref q_t_image, .ref q_t_isKept])), (q_t_book, .inl (G 0, 26, .inl t_book)), (q_t_now, .inl (G 0, 26, .inl z72)), (q_t_does, .inl (G 0, 12, .inl t_does))] H → va_D A [(q_t, .inr (8, [.int t_there, .ref q_t_book, .ref q_t_now, .ref q_t_does, .ref q_t_bad, .ref q_t_likes, .int t_sights, .ref q_t_sight, .int t_signs, .ref q_t_pad, .ref q_t_then, .int t_worseAt, .int t_worseWho, .int t_hours, .ref q_t_ahead, .int t_reason, .int t_acts, .ref q_t_most, .ref q_t_worth, .ref q_t_damp, .ref q_t_next, .ref q_t_image, .ref q_t_isKept])), (q_t_book, .inl (G 0, 26, .inl t_book)), (q_t_now, .inl (G 0, 26, .inl z72)), (q_t_does, .inl (G 0, 12, .inl t_does))] → va_S A s.heap H locs → ∀ ls : Array Slot, lv_has ls 7 [(2, .int v2), (3, .int z70), (4, .int z71)] → W p l e (kR 3 105) s m args below meth c H locs 0 0 Q (F0 m 83 ls []) := by
        intro z70 z71 z72 hy; obtain ⟨rfl, rfl, rfl⟩ := sm3 hy
        intro H locs hP hD hS ls hl
        refine lv_iload_n hx hb dX8_alone_83 rfl (lv_at hl 1 rfl) ?_
        refine lv_if_lt (tgt := 91) hx hb dX8_alone_84 (by decide) (fun c73 => ?_) (fun c73 => ?_)
        · have hf := ifp c73 hf
          refine lv_iload_n hx hb dX8_alone_91 rfl (lv_at hl 1 rfl) ?_
          refine lv_goto (tgt := 97) hx hb dX8_alone_92 (by decide) ?_
          exact RT _ _ hf _ _ _ H locs dX8_alone_97 (rkI _) hP hD hS
        · have hf := ifn c73 hf
          refine lv_iload_n hx hb dX8_alone_87 rfl (lv_at hl 0 rfl) ?_
          refine lv_if_ne (tgt := 95) hx hb dX8_alone_88 (by decide) (fun c74 => ?_) (fun c74 => ?_)
          · have hf := ifn c74 hf
            refine lv_iload hx hb dX8_alone_95 (lv_at hl 2 rfl) ?_
            exact RT _ _ hf _ _ _ H locs dX8_alone_97 (rkI _) hP hD hS
          · have hf := ifp c74 hf
            refine lv_iload_n hx hb dX8_alone_91 rfl (lv_at hl 1 rfl) ?_
            refine lv_goto (tgt := 97) hx hb dX8_alone_92 (by decide) ?_
            exact RT _ _ hf _ _ _ H locs dX8_alone_97 (rkI _) hP hD hS
      have L48 : ∀ (k : Nat) (w40 : Int32) (w41 : Int32) (w42 : Int32) (w43 : Nat → Int32), fX8_alone_32 fu t_book t_does v1 k w40 w41 w42 w43 = some (u44, u45, u46) → ∀ (H : Heap) (locs : List Loc), va_P D vwCl [(q_t, .inr (8, [.int t_there, .ref q_t_book, .ref q_t_now, .ref q_t_does, .ref q_t_bad, .ref q_t_likes, .int t_sights, .ref q_t_sight, .int t_signs, .ref q_t_pad, .ref q_t_then, .int t_worseAt, .int t_worseWho, .int t_hours, .ref q_t_ahead, .int t_reason, .int t_acts, .ref q_t_most, .ref q_t_worth, .ref q_t_damp, .ref q_t_next, .ref q_t_image, .ref q_t_isKept])), (q_t_book, .inl (G 0, 26, .inl t_book)), (q_t_now, .inl (G 0, 26, .inl w43)), (q_t_does, .inl (G 0, 12, .inl t_does))] H → va_D A [(q_t, .inr (8, [.int t_there, .ref q_t_book, .ref q_t_now, .ref q_t_does, .ref q_t_bad, .ref q_t_likes, .int t_sights, .ref q_t_sight, .int t_signs, .ref q_t_pad, .ref q_t_then, .int t_worseAt, .int t_worseWho, .int t_hours, .ref q_t_ahead, .int t_reason, .int t_acts, .ref q_t_most, .ref q_t_worth, .ref q_t_damp, .ref q_t_next, .ref q_t_image, .ref q_t_isKept])), (q_t_book, .inl (G 0, 26, .inl t_book)), (q_t_now, .inl (G 0, 26, .inl w43)), (q_t_does, .inl (G 0, 12, .inl t_does))] → va_S A s.heap H locs → ∀ ls : Array Slot, lv_has ls 7 [(0, .ref q_t), (1, .int v1), (2, .int v2), (3, .int w40), (4, .int w41), (5, .int w42)] → W p l e (kR 3 105) s m args below meth c H locs 0 0 Q (F0 m 32 ls []) := by
        intro k; induction k with
        | zero => intro w40 w41 w42 w43 hf; exact nosome hf
        | succ k ih =>
          intro w40 w41 w42 w43 hf; rw [fX8_alone_32] at hf
          intro H locs hP hD hS ls hl
          refine lv_iload hx hb dX8_alone_32 (lv_at hl 5 rfl) ?_
          refine lv_iconst (v := (4 : Int32)) hx hb dX8_alone_34 (by decide) ?_
          refine lv_icmp_ge (tgt := 83) hx hb dX8_alone_35 (by decide) (fun c53 => ?_) (fun c53 => ?_)
          · have hf := ifp c53 hf
            exact E47 _ _ _ hf H locs hP hD hS ls (lv_sub hl [2, 3, 4] rfl)
          · have hf := ifn c53 hf
            refine lv_aload_n hx hb dX8_alone_38 rfl (lv_at hl 0 rfl) ?_
            refine lv_iload_n hx hb dX8_alone_39 rfl (lv_at hl 1 rfl) ?_
            refine lv_iload hx hb dX8_alone_40 (lv_at hl 5 rfl) ?_
            obtain ⟨r54, o55, h56, hf⟩ := bd2E hf
            refine kW_virt hx hb hml hown hts hK hn hA hP hD hS (kX8_aloneIn l D G fu q_t q_t_book q_t_now q_t_does q_t_bad q_t_likes q_t_sight q_t_pad q_t_then q_t_ahead q_t_most q_t_worth q_t_damp q_t_next q_t_image q_t_isKept t_there t_sights t_signs t_worseAt t_worseWho t_hours t_reason t_acts t_book w43 t_does v1 w42 h56) cvX8_134 ⟨Nat.le_of_ble_eq_true rfl, Nat.le_of_ble_eq_true rfl⟩ [0, 1, 2, 3] rfl rfl [true, true, true, true] rfl (w3 := [(q_t, .inr (8, [.int t_there, .ref q_t_book, .ref q_t_now, .ref q_t_does, .ref q_t_bad, .ref q_t_likes, .int t_sights, .ref q_t_sight, .int t_signs, .ref q_t_pad, .ref q_t_then, .int t_worseAt, .int t_worseWho, .int t_hours, .ref q_t_ahead, .int t_reason, .int t_acts, .ref q_t_most, .ref q_t_worth, .ref q_t_damp, .ref q_t_next, .ref q_t_image, .ref q_t_isKept])), (q_t_book, .inl (G 0, 26, .inl t_book)), (q_t_now, .inl (G 0, 26, .inl o55)), (q_t_does, .inl (G 0, 12, .inl t_does))]) [0, 1, 2, 3] rfl rfl 0 rfl rfl rfl hl.1 rfl (Nat.le_of_ble_eq_true rfl) ⟨Nat.zero_le _, Nat.zero_le _⟩ dX8_alone_42 (fun H locs hP hD hS => ?_)
            have hP : va_P D vwCl [(q_t, .inr (8, [.int t_there, .ref q_t_book, .ref q_t_now, .ref q_t_does, .ref q_t_bad, .ref q_t_likes, .int t_sights, .ref q_t_sight, .int t_signs, .ref q_t_pad, .ref q_t_then, .int t_worseAt, .int t_worseWho, .int t_hours, .ref q_t_ahead, .int t_reason, .int t_acts, .ref q_t_most, .ref q_t_worth, .ref q_t_damp, .ref q_t_next, .ref q_t_image, .ref q_t_isKept])), (q_t_book, .inl (G 0, 26, .inl t_book)), (q_t_now, .inl (G 0, 26, .inl o55)), (q_t_does, .inl (G 0, 12, .inl t_does))] H := hP
            have hD : va_D A [(q_t, .inr (8, [.int t_there, .ref q_t_book, .ref q_t_now, .ref q_t_does, .ref q_t_bad, .ref q_t_likes, .int t_sights, .ref q_t_sight, .int t_signs, .ref q_t_pad, .ref q_t_then, .int t_worseAt, .int t_worseWho, .int t_hours, .ref q_t_ahead, .int t_reason, .int t_acts, .ref q_t_most, .ref q_t_worth, .ref q_t_damp, .ref q_t_next, .ref q_t_image, .ref q_t_isKept])), (q_t_book, .inl (G 0, 26, .inl t_book)), (q_t_now, .inl (G 0, 26, .inl o55)), (q_t_does, .inl (G 0, 12, .inl t_does))] := hD
            refine lv_istore (lv' := [(6, .int r54), (0, .ref q_t), (1, .int v1), (2, .int v2), (3, .int w40), (4, .int w41), (5, .int w42)]) hx hb dX8_alone_45 hl (by decide) rfl (fun ls hl => ?_)
            refine lv_iload hx hb dX8_alone_47 (lv_at hl 0 rfl) ?_
            refine lv_iload hx hb dX8_alone_49 (lv_at hl 5 rfl) ?_
            obtain ⟨j58, h69, hf⟩ := bd1E hf
            have E67 : ∀ (z59 : Int32), some z59 = some j58 → ∀ (H : Heap) (locs : List Loc), va_P D vwCl [(q_t, .inr (8, [.int t_there, .ref q_t_book, .ref q_t_now, .ref q_t_does, .ref q_t_bad, .ref q_t_likes, .int t_sights, .ref q_t_sight, .int t_signs, .ref q_t_pad, .ref q_t_then, .int t_worseAt, .int t_worseWho, .int t_hours, .ref q_t_ahead, .int t_reason, .int t_acts, .ref q_t_most, .ref q_t_worth, .ref q_t_damp, .ref q_t_next, .ref q_t_image, .ref q_t_isKept])), (q_t_book, .inl (G 0, 26, .inl t_book)), (q_t_now, .inl (G 0, 26, .inl o55)), (q_t_does, .inl (G 0, 12, .inl t_does))] H → va_D A [(q_t, .inr (8, [.int t_there, .ref q_t_book, .ref q_t_now, .ref q_t_does, .ref q_t_bad, .ref q_t_likes, .int t_sights, .ref q_t_sight, .int t_signs, .ref q_t_pad, .ref q_t_then, .int t_worseAt, .int t_worseWho, .int t_hours, .ref q_t_ahead, .int t_reason, .int t_acts, .ref q_t_most, .ref q_t_worth, .ref q_t_damp, .ref q_t_next, .ref q_t_image, .ref q_t_isKept])), (q_t_book, .inl (G 0, 26, .inl t_book)), (q_t_now, .inl (G 0, 26, .inl o55)), (q_t_does, .inl (G 0, 12, .inl t_does))] → va_S A s.heap H locs → ∀ ls : Array Slot, lv_has ls 7 [(0, .ref q_t), (1, .int v1), (2, .int v2), (4, .int w41), (5, .int w42), (6, .int r54)] → W p l e (kR 3 105) s m args below meth c H locs 0 0 Q (F0 m 60 ls [.int z59]) := by
              intro z59 hy; obtain rfl := sm1 hy
              intro H locs hP hD hS ls hl
              refine lv_istore_n (lv' := [(3, .int z59), (0, .ref q_t), (1, .int v1), (2, .int v2), (4, .int w41), (5, .int w42), (6, .int r54)]) hx hb dX8_alone_60 rfl hl (by decide) rfl (fun ls hl => ?_)
              refine lv_iload hx hb dX8_alone_61 (lv_at hl 6 rfl) ?_
              refine lv_iload hx hb dX8_alone_63 (lv_at hl 4 rfl) ?_
              obtain ⟨j61, h66, hf⟩ := bd1E hf
              have E64 : ∀ (z62 : Int32), some z62 = some j61 → ∀ (H : Heap) (locs : List Loc), va_P D vwCl [(q_t, .inr (8, [.int t_there, .ref q_t_book, .ref q_t_now, .ref q_t_does, .ref q_t_bad, .ref q_t_likes, .int t_sights, .ref q_t_sight, .int t_signs, .ref q_t_pad, .ref q_t_then, .int t_worseAt, .int t_worseWho, .int t_hours, .ref q_t_ahead, .int t_reason, .int t_acts, .ref q_t_most, .ref q_t_worth, .ref q_t_damp, .ref q_t_next, .ref q_t_image, .ref q_t_isKept])), (q_t_book, .inl (G 0, 26, .inl t_book)), (q_t_now, .inl (G 0, 26, .inl o55)), (q_t_does, .inl (G 0, 12, .inl t_does))] H → va_D A [(q_t, .inr (8, [.int t_there, .ref q_t_book, .ref q_t_now, .ref q_t_does, .ref q_t_bad, .ref q_t_likes, .int t_sights, .ref q_t_sight, .int t_signs, .ref q_t_pad, .ref q_t_then, .int t_worseAt, .int t_worseWho, .int t_hours, .ref q_t_ahead, .int t_reason, .int t_acts, .ref q_t_most, .ref q_t_worth, .ref q_t_damp, .ref q_t_next, .ref q_t_image, .ref q_t_isKept])), (q_t_book, .inl (G 0, 26, .inl t_book)), (q_t_now, .inl (G 0, 26, .inl o55)), (q_t_does, .inl (G 0, 12, .inl t_does))] → va_S A s.heap H locs → ∀ ls : Array Slot, lv_has ls 7 [(0, .ref q_t), (1, .int v1), (2, .int v2), (3, .int z59), (5, .int w42)] → W p l e (kR 3 105) s m args below meth c H locs 0 0 Q (F0 m 75 ls [.int z62]) := by
                intro z62 hy; obtain rfl := sm1 hy
                intro H locs hP hD hS ls hl
                refine lv_istore (lv' := [(4, .int z62), (0, .ref q_t), (1, .int v1), (2, .int v2), (3, .int z59), (5, .int w42)]) hx hb dX8_alone_75 hl (by decide) rfl (fun ls hl => ?_)
                obtain ⟨y63, ey63⟩ : ∃ y : Int32, y = w42 + (1 : Int32) := ⟨_, rfl⟩
                have hf := nmeU ey63 hf
                refine lv_iinc (v := y63) (lv' := [(5, .int y63), (4, .int z62), (0, .ref q_t), (1, .int v1), (2, .int v2), (3, .int z59)]) hx hb dX8_alone_77 hl (k := 5) rfl (by rw [ey63]; rfl) (by decide) rfl (fun ls hl => ?_)
                refine lv_goto (tgt := 32) hx hb dX8_alone_80 (by decide) ?_
                exact ih _ _ _ _ hf H locs hP hD hS ls (lv_sub hl [2, 3, 4, 5, 1, 0] rfl)
              have hf := h66
              refine lv_icmp_ge (tgt := 73) hx hb dX8_alone_65 (by decide) (fun c65 => ?_) (fun c65 => ?_)
              · have hf := ifp c65 hf
                refine lv_iload hx hb dX8_alone_73 (lv_at hl 4 rfl) ?_
                exact E64 _ hf H locs hP hD hS ls (lv_sub hl [1, 2, 3, 0, 5] rfl)
              · have hf := ifn c65 hf
                refine lv_iload hx hb dX8_alone_68 (lv_at hl 6 rfl) ?_
                refine lv_goto (tgt := 75) hx hb dX8_alone_70 (by decide) ?_
                exact E64 _ hf H locs hP hD hS ls (lv_sub hl [1, 2, 3, 0, 5] rfl)
            have hf := h69
            refine lv_icmp_ge (tgt := 59) hx hb dX8_alone_51 (by decide) (fun c68 => ?_) (fun c68 => ?_)
            · have hf := ifp c68 hf
              refine lv_iload_n hx hb dX8_alone_59 rfl (lv_at hl 4 rfl) ?_
              exact E67 _ hf H locs hP hD hS ls (lv_sub hl [1, 2, 3, 5, 6, 0] rfl)
            · have hf := ifn c68 hf
              refine lv_iload hx hb dX8_alone_54 (lv_at hl 6 rfl) ?_
              refine lv_goto (tgt := 60) hx hb dX8_alone_56 (by decide) ?_
              exact E67 _ hf H locs hP hD hS ls (lv_sub hl [1, 2, 3, 5, 6, 0] rfl)
      exact L48 fu (-6 : Int32) (1000000 : Int32) (0 : Int32) t_now h50 H locs hP hD hS ls (lv_sub hl [3, 4, 5, 2, 1, 0] rfl)
    · have hf := ifp c6 hf
      refine lv_bipush (v := (-2 : Int32)) hx hb dX8_alone_19 (by decide) ?_
      exact RT _ _ hf _ _ _ H locs dX8_alone_21 (rkI _) hP hD hS
  · have hf := ifp c3 hf
    refine lv_iconst (v := (-1 : Int32)) hx hb dX8_alone_8 (by decide) ?_
    exact RT _ _ hf _ _ _ H locs dX8_alone_9 (rkI _) hP hD hS
set_option maxHeartbeats 4000000 in
set_option maxRecDepth 100000 in
theorem kX8_areTwo (l : Launch) (D : va_G) (G : Nat → ClassId) (v0 : Int32) (v1 : Int32) {r : Int32} (hf : fX8_areTwo v0 v1 = some r) : rO l D G yX8_areTwo cX8_areTwo 2 (some .boolean) 2 82 [.int v0, .int v1] [] (some (.int r)) := by
  refine rO_of (by decide) (Nat.le_of_ble_eq_true rfl) ?_
  intro p e s m args below meth c Q hx hb hml hown hts hK hn hP RET ls hl
  have RT : ∀ (a0_ : Int32), some a0_ = some r → ∀ (pc : Nat) (ls : Array Slot) (ins : Instr), decode cX8_areTwo pc = .ok (ins, 1) → rk (some .boolean) (some (.int a0_)) ins → W p l e (kR 2 82) s m args below meth c s.heap [] 0 0 Q (F0 m pc ls [.int a0_]) := by
    intro a0_ hy; obtain rfl := sm1 hy
    exact RET
  have hown : s.vm.findClass RX8 = some m.cls := hown
  have hl : lv_has ls 2 [(0, .int v0), (1, .int v1)] := hl
  clear RET
  rw [fX8_areTwo] at hf
  refine lv_iload_n hx hb dX8_areTwo_0 rfl (lv_at hl 0 rfl) ?_
  refine lv_iconst (v := (0 : Int32)) hx hb dX8_areTwo_1 (by decide) ?_
  refine lv_iconst (v := (5 : Int32)) hx hb dX8_areTwo_2 (by decide) ?_
  obtain ⟨r1, h2, hf⟩ := bd1E hf
  refine kO_stat hx hb hml hown hts hK hn hP (kX8_in l D G v0 (0 : Int32) (5 : Int32) h2) csX8_61 ⟨Nat.le_of_ble_eq_true rfl, Nat.le_of_ble_eq_true rfl⟩ [] rfl rfl hl.1 rfl (Nat.le_of_ble_eq_true rfl) ⟨Nat.zero_le _, Nat.zero_le _⟩ dX8_areTwo_3 ?_
  refine lv_if_eq (tgt := 27) hx hb dX8_areTwo_6 (by decide) (fun c3 => ?_) (fun c3 => ?_)
  · have hf := ifp c3 hf
    refine lv_iconst (v := (0 : Int32)) hx hb dX8_areTwo_27 (by decide) ?_
    exact RT _ hf _ _ _ dX8_areTwo_28 (rkZ (Or.inl rfl))
  · have hf := ifn c3 hf
    refine lv_iload_n hx hb dX8_areTwo_9 rfl (lv_at hl 1 rfl) ?_
    refine lv_iconst (v := (0 : Int32)) hx hb dX8_areTwo_10 (by decide) ?_
    refine lv_iconst (v := (5 : Int32)) hx hb dX8_areTwo_11 (by decide) ?_
    obtain ⟨r4, h5, hf⟩ := bd1E hf
    refine kO_stat hx hb hml hown hts hK hn hP (kX8_in l D G v1 (0 : Int32) (5 : Int32) h5) csX8_61 ⟨Nat.le_of_ble_eq_true rfl, Nat.le_of_ble_eq_true rfl⟩ [] rfl rfl hl.1 rfl (Nat.le_of_ble_eq_true rfl) ⟨Nat.zero_le _, Nat.zero_le _⟩ dX8_areTwo_12 ?_
    refine lv_if_eq (tgt := 27) hx hb dX8_areTwo_15 (by decide) (fun c6 => ?_) (fun c6 => ?_)
    · have hf := ifp c6 hf
      refine lv_iconst (v := (0 : Int32)) hx hb dX8_areTwo_27 (by decide) ?_
      exact RT _ hf _ _ _ dX8_areTwo_28 (rkZ (Or.inl rfl))
    · have hf := ifn c6 hf
      refine lv_iload_n hx hb dX8_areTwo_18 rfl (lv_at hl 0 rfl) ?_
      refine lv_iload_n hx hb dX8_areTwo_19 rfl (lv_at hl 1 rfl) ?_
      refine lv_icmp_eq (tgt := 27) hx hb dX8_areTwo_20 (by decide) (fun c7 => ?_) (fun c7 => ?_)
      · have hf := ifp c7 hf
        refine lv_iconst (v := (0 : Int32)) hx hb dX8_areTwo_27 (by decide) ?_
        exact RT _ hf _ _ _ dX8_areTwo_28 (rkZ (Or.inl rfl))
      · have hf := ifn c7 hf
        refine lv_iconst (v := (1 : Int32)) hx hb dX8_areTwo_23 (by decide) ?_
        refine lv_goto (tgt := 28) hx hb dX8_areTwo_24 (by decide) ?_
        exact RT _ hf _ _ _ dX8_areTwo_28 (rkZ (Or.inr rfl))
set_option maxHeartbeats 4000000 in
set_option maxRecDepth 100000 in
theorem kX8_bad (l : Launch) (D : va_G) (G : Nat → ClassId) (q_t q_t_book q_t_now q_t_does q_t_bad q_t_likes q_t_sight q_t_pad q_t_then q_t_ahead q_t_most q_t_worth q_t_damp q_t_next q_t_image q_t_isKept : Nat) (t_there : Int32) (t_sights : Int32) (t_signs : Int32) (t_worseAt : Int32) (t_worseWho : Int32) (t_hours : Int32) (t_reason : Int32) (t_acts : Int32) (t_bad : Nat → Int32) (v1 : Int32) (v2 : Int32) (v3 : Int32) {r : Int32} {o_t_bad : Nat → Int32} (hf : fX8_bad t_bad v1 v2 v3 = some (r, o_t_bad)) : rW l D G yX8_bad cX8_bad 5 (some .int) 3 103 [.ref q_t, .int v1, .int v2, .int v3] [(q_t, .inr (8, [.int t_there, .ref q_t_book, .ref q_t_now, .ref q_t_does, .ref q_t_bad, .ref q_t_likes, .int t_sights, .ref q_t_sight, .int t_signs, .ref q_t_pad, .ref q_t_then, .int t_worseAt, .int t_worseWho, .int t_hours, .ref q_t_ahead, .int t_reason, .int t_acts, .ref q_t_most, .ref q_t_worth, .ref q_t_damp, .ref q_t_next, .ref q_t_image, .ref q_t_isKept])), (q_t_bad, .inl (G 0, 36, .inl t_bad))] [(q_t, .inr (8, [.int t_there, .ref q_t_book, .ref q_t_now, .ref q_t_does, .ref q_t_bad, .ref q_t_likes, .int t_sights, .ref q_t_sight, .int t_signs, .ref q_t_pad, .ref q_t_then, .int t_worseAt, .int t_worseWho, .int t_hours, .ref q_t_ahead, .int t_reason, .int t_acts, .ref q_t_most, .ref q_t_worth, .ref q_t_damp, .ref q_t_next, .ref q_t_image, .ref q_t_isKept])), (q_t_bad, .inl (G 0, 36, .inl o_t_bad))] (some (.int r)) := by
  refine rW_of (by decide) (Nat.le_of_ble_eq_true rfl) ?_
  intro p e s m args below meth c Q A hx hb hml hown hts hK hn hA RET H locs hP hD hS ls hl
  have RT : ∀ (a0_ : Int32) (a1_ : Nat → Int32), some (a0_, a1_) = some (r, o_t_bad) → ∀ (pc : Nat) (ls : Array Slot) (ins : Instr) (H : Heap) (locs : List Loc), decode cX8_bad pc = .ok (ins, 1) → rk (some .int) (some (.int a0_)) ins → va_P D vwCl [(q_t, .inr (8, [.int t_there, .ref q_t_book, .ref q_t_now, .ref q_t_does, .ref q_t_bad, .ref q_t_likes, .int t_sights, .ref q_t_sight, .int t_signs, .ref q_t_pad, .ref q_t_then, .int t_worseAt, .int t_worseWho, .int t_hours, .ref q_t_ahead, .int t_reason, .int t_acts, .ref q_t_most, .ref q_t_worth, .ref q_t_damp, .ref q_t_next, .ref q_t_image, .ref q_t_isKept])), (q_t_bad, .inl (G 0, 36, .inl a1_))] H → va_D A [(q_t, .inr (8, [.int t_there, .ref q_t_book, .ref q_t_now, .ref q_t_does, .ref q_t_bad, .ref q_t_likes, .int t_sights, .ref q_t_sight, .int t_signs, .ref q_t_pad, .ref q_t_then, .int t_worseAt, .int t_worseWho, .int t_hours, .ref q_t_ahead, .int t_reason, .int t_acts, .ref q_t_most, .ref q_t_worth, .ref q_t_damp, .ref q_t_next, .ref q_t_image, .ref q_t_isKept])), (q_t_bad, .inl (G 0, 36, .inl a1_))] → va_S A s.heap H locs → W p l e (kR 3 103) s m args below meth c H locs 0 0 Q (F0 m pc ls [.int a0_]) := by
    intro a0_ a1_ hy; obtain ⟨rfl, rfl⟩ := sm2 hy
    exact RET
  have hown : s.vm.findClass RX8 = some m.cls := hown
  have hl : lv_has ls 5 [(0, .ref q_t), (1, .int v1), (2, .int v2), (3, .int v3)] := hl
  clear RET
  rw [fX8_bad] at hf
  refine lv_iload_n hx hb dX8_bad_0 rfl (lv_at hl 1 rfl) ?_
  refine lv_iload_n hx hb dX8_bad_1 rfl (lv_at hl 2 rfl) ?_
  obtain ⟨r1, h2, hf⟩ := bd1E hf
  refine kO_stat hx hb hml hown hts hK hn hP (kX8_areTwo l D G v1 v2 h2) csX8_77 ⟨Nat.le_of_ble_eq_true rfl, Nat.le_of_ble_eq_true rfl⟩ [] rfl rfl hl.1 rfl (Nat.le_of_ble_eq_true rfl) ⟨Nat.zero_le _, Nat.zero_le _⟩ dX8_bad_2 ?_
  refine lv_if_ne (tgt := 10) hx hb dX8_bad_5 (by decide) (fun c3 => ?_) (fun c3 => ?_)
  · have hf := ifn c3 hf
    refine lv_iload_n hx hb dX8_bad_10 rfl (lv_at hl 3 rfl) ?_
    refine lv_bipush (v := (-3 : Int32)) hx hb dX8_bad_11 (by decide) ?_
    refine lv_iconst (v := (3 : Int32)) hx hb dX8_bad_13 (by decide) ?_
    obtain ⟨r4, h5, hf⟩ := bd1E hf
    refine kO_stat hx hb hml hown hts hK hn hP (kX8_in l D G v3 (-3 : Int32) (3 : Int32) h5) csX8_61 ⟨Nat.le_of_ble_eq_true rfl, Nat.le_of_ble_eq_true rfl⟩ [] rfl rfl hl.1 rfl (Nat.le_of_ble_eq_true rfl) ⟨Nat.zero_le _, Nat.zero_le _⟩ dX8_bad_14 ?_
    refine lv_if_ne (tgt := 23) hx hb dX8_bad_17 (by decide) (fun c6 => ?_) (fun c6 => ?_)
    · have hf := ifn c6 hf
      refine lv_aload_n hx hb dX8_bad_23 rfl (lv_at hl 0 rfl) ?_
      refine va_get (D := D) (ci := 8) (v := .ref q_t_bad) (C := RX8) (T := TX8) (N := 23) hx hb hts inX8 hown hK hP 0 rfl rfl 4 (by decide) (hts _ lfX8_19) (fun _ h9 => h9) rfl dX8_bad_24 ?_
      refine lv_bipush (v := (6 : Int32)) hx hb dX8_bad_27 (by decide) ?_
      refine lv_iload_n hx hb dX8_bad_29 rfl (lv_at hl 1 rfl) ?_
      refine lv_imul hx hb dX8_bad_30 ?_
      refine lv_iload_n hx hb dX8_bad_31 rfl (lv_at hl 2 rfl) ?_
      refine lv_iadd hx hb dX8_bad_32 ?_
      obtain ⟨x7, ex7, ix7, hf⟩ := ldIE hf
      refine k_iald hx hb hK hP 1 0 rfl rfl ix7 ex7 dX8_bad_33 ?_
      refine lv_istore (lv' := [(4, .int x7), (0, .ref q_t), (1, .int v1), (2, .int v2), (3, .int v3)]) hx hb dX8_bad_34 hl (by decide) rfl (fun ls hl => ?_)
      refine lv_aload_n hx hb dX8_bad_36 rfl (lv_at hl 1 rfl) ?_
      refine va_get (D := D) (ci := 8) (v := .ref q_t_bad) (C := RX8) (T := TX8) (N := 23) hx hb hts inX8 hown hK hP 0 rfl rfl 4 (by decide) (hts _ lfX8_19) (fun _ h9 => h9) rfl dX8_bad_37 ?_
      refine lv_bipush (v := (6 : Int32)) hx hb dX8_bad_40 (by decide) ?_
      refine lv_iload_n hx hb dX8_bad_42 rfl (lv_at hl 2 rfl) ?_
      refine lv_imul hx hb dX8_bad_43 ?_
      refine lv_iload_n hx hb dX8_bad_44 rfl (lv_at hl 3 rfl) ?_
      refine lv_iadd hx hb dX8_bad_45 ?_
      refine lv_iload_n hx hb dX8_bad_46 rfl (lv_at hl 4 rfl) ?_
      obtain ⟨g8, eg8, ig8, hf⟩ := stIE hf
      refine k_iast hx hb hK hP hD hS 1 0 rfl rfl ig8 eg8 dX8_bad_47 (fun H locs hP hD hS => ?_)
      have hP : va_P D vwCl [(q_t, .inr (8, [.int t_there, .ref q_t_book, .ref q_t_now, .ref q_t_does, .ref q_t_bad, .ref q_t_likes, .int t_sights, .ref q_t_sight, .int t_signs, .ref q_t_pad, .ref q_t_then, .int t_worseAt, .int t_worseWho, .int t_hours, .ref q_t_ahead, .int t_reason, .int t_acts, .ref q_t_most, .ref q_t_worth, .ref q_t_damp, .ref q_t_next, .ref q_t_image, .ref q_t_isKept])), (q_t_bad, .inl (G 0, 36, .inl g8))] H := hP
      have hD : va_D A [(q_t, .inr (8, [.int t_there, .ref q_t_book, .ref q_t_now, .ref q_t_does, .ref q_t_bad, .ref q_t_likes, .int t_sights, .ref q_t_sight, .int t_signs, .ref q_t_pad, .ref q_t_then, .int t_worseAt, .int t_worseWho, .int t_hours, .ref q_t_ahead, .int t_reason, .int t_acts, .ref q_t_most, .ref q_t_worth, .ref q_t_damp, .ref q_t_next, .ref q_t_image, .ref q_t_isKept])), (q_t_bad, .inl (G 0, 36, .inl g8))] := hD
      refine lv_iload hx hb dX8_bad_48 (lv_at hl 0 rfl) ?_
      refine lv_bipush (v := (10 : Int32)) hx hb dX8_bad_50 (by decide) ?_
      refine lv_iadd hx hb dX8_bad_52 ?_
      exact RT _ _ hf _ _ _ H locs dX8_bad_53 (rkI _) hP hD hS
    · have hf := ifp c6 hf
      refine lv_bipush (v := (-2 : Int32)) hx hb dX8_bad_20 (by decide) ?_
      exact RT _ _ hf _ _ _ H locs dX8_bad_22 (rkI _) hP hD hS
  · have hf := ifp c3 hf
    refine lv_iconst (v := (-1 : Int32)) hx hb dX8_bad_8 (by decide) ?_
    exact RT _ _ hf _ _ _ H locs dX8_bad_9 (rkI _) hP hD hS
set_option maxHeartbeats 4000000 in
set_option maxRecDepth 100000 in
theorem kX8_faultOf (l : Launch) (D : va_G) (G : Nat → ClassId) (fu : Nat) (q_t q_t_book q_t_now q_t_does q_t_bad q_t_likes q_t_sight q_t_pad q_t_then q_t_ahead q_t_most q_t_worth q_t_damp q_t_next q_t_image q_t_isKept : Nat) (t_there : Int32) (t_sights : Int32) (t_signs : Int32) (t_worseAt : Int32) (t_worseWho : Int32) (t_hours : Int32) (t_reason : Int32) (t_acts : Int32) (t_pad : Nat → Int32) {r : Int32} (hf : fX8_faultOf fu t_signs t_pad = some r) : rO l D G yX8_faultOf cX8_faultOf 5 (some .int) 2 82 [.ref q_t] [(q_t, .inr (8, [.int t_there, .ref q_t_book, .ref q_t_now, .ref q_t_does, .ref q_t_bad, .ref q_t_likes, .int t_sights, .ref q_t_sight, .int t_signs, .ref q_t_pad, .ref q_t_then, .int t_worseAt, .int t_worseWho, .int t_hours, .ref q_t_ahead, .int t_reason, .int t_acts, .ref q_t_most, .ref q_t_worth, .ref q_t_damp, .ref q_t_next, .ref q_t_image, .ref q_t_isKept])), (q_t_pad, .inl (G 0, 60, .inl t_pad))] (some (.int r)) := by
  refine rO_of (by decide) (Nat.le_of_ble_eq_true rfl) ?_
  intro p e s m args below meth c Q hx hb hml hown hts hK hn hP RET ls hl
  have RT : ∀ (a0_ : Int32), some a0_ = some r → ∀ (pc : Nat) (ls : Array Slot) (ins : Instr), decode cX8_faultOf pc = .ok (ins, 1) → rk (some .int) (some (.int a0_)) ins → W p l e (kR 2 82) s m args below meth c s.heap [] 0 0 Q (F0 m pc ls [.int a0_]) := by
    intro a0_ hy; obtain rfl := sm1 hy
    exact RET
  have hown : s.vm.findClass RX8 = some m.cls := hown
  have hl : lv_has ls 5 [(0, .ref q_t)] := hl
  clear RET
  rw [fX8_faultOf] at hf
  refine lv_iconst (v := (0 : Int32)) hx hb dX8_faultOf_0 (by decide) ?_
  refine lv_istore_n (lv' := [(1, .int (0 : Int32)), (0, .ref q_t)]) hx hb dX8_faultOf_1 rfl hl (by decide) rfl (fun ls hl => ?_)
  refine lv_iconst (v := (0 : Int32)) hx hb dX8_faultOf_2 (by decide) ?_
  refine lv_istore_n (lv' := [(2, .int (0 : Int32)), (1, .int (0 : Int32)), (0, .ref q_t)]) hx hb dX8_faultOf_3 rfl hl (by decide) rfl (fun ls hl => ?_)
  obtain ⟨z129, h130, hr131, hc132⟩ := br1E hf
  have E127 : ∀ (z245 : Int32), some (Sum.inr z245) = some z129 → ∀ ls : Array Slot, lv_has ls 5 [(0, .ref q_t), (1, .int z245)] → W p l e (kR 2 82) s m args below meth c s.heap [] 0 0 Q (F0 m 101 ls []) := by
    intro z245 hy; have hf := hc132 z245 hy
    intro ls hl
    refine lv_iload_n hx hb dX8_faultOf_101 rfl (lv_at hl 1 rfl) ?_
    refine lv_if_eq (tgt := 112) hx hb dX8_faultOf_102 (by decide) (fun c246 => ?_) (fun c246 => ?_)
    · have hf := ifp c246 hf
      refine lv_bipush (v := (-6 : Int32)) hx hb dX8_faultOf_112 (by decide) ?_
      exact RT _ hf _ _ _ dX8_faultOf_114 (rkI _)
    · have hf := ifn c246 hf
      refine lv_aload_n hx hb dX8_faultOf_105 rfl (lv_at hl 0 rfl) ?_
      refine va_get (D := D) (ci := 8) (v := .int t_signs) (C := RX8) (T := TX8) (N := 23) hx hb hts inX8 hown hK hP 0 rfl rfl 8 (by decide) (hts _ lfX8_80) (fun _ h9 => h9) rfl dX8_faultOf_106 ?_
      refine lv_goto (tgt := 114) hx hb dX8_faultOf_109 (by decide) ?_
      exact RT _ hf _ _ _ dX8_faultOf_114 (rkI _)
  have L128 : ∀ (k : Nat) (w124 : Int32) (w125 : Int32), fX8_faultOf_4 t_signs t_pad k w124 w125 = some z129 → ∀ ls : Array Slot, lv_has ls 5 [(0, .ref q_t), (1, .int w124), (2, .int w125)] → W p l e (kR 2 82) s m args below meth c s.heap [] 0 0 Q (F0 m 4 ls []) := by
    intro k; induction k with
    | zero => intro w124 w125 hf; exact nosome hf
    | succ k ih =>
      intro w124 w125 hf; rw [fX8_faultOf_4] at hf
      intro ls hl
      refine lv_iload_n hx hb dX8_faultOf_4 rfl (lv_at hl 2 rfl) ?_
      refine lv_aload_n hx hb dX8_faultOf_5 rfl (lv_at hl 0 rfl) ?_
      refine va_get (D := D) (ci := 8) (v := .int t_signs) (C := RX8) (T := TX8) (N := 23) hx hb hts inX8 hown hK hP 0 rfl rfl 8 (by decide) (hts _ lfX8_80) (fun _ h9 => h9) rfl dX8_faultOf_6 ?_
      refine lv_icmp_ge (tgt := 101) hx hb dX8_faultOf_9 (by decide) (fun c133 => ?_) (fun c133 => ?_)
      · have hf := ifp c133 hf
        exact E127 _ hf ls (lv_sub hl [0, 1] rfl)
      · have hf := ifn c133 hf
        refine lv_aload_n hx hb dX8_faultOf_12 rfl (lv_at hl 0 rfl) ?_
        refine va_get (D := D) (ci := 8) (v := .ref q_t_pad) (C := RX8) (T := TX8) (N := 23) hx hb hts inX8 hown hK hP 0 rfl rfl 9 (by decide) (hts _ lfX8_28) (fun _ h9 => h9) rfl dX8_faultOf_13 ?_
        refine lv_iload_n hx hb dX8_faultOf_16 rfl (lv_at hl 2 rfl) ?_
        obtain ⟨x134, ex134, ix134, hf⟩ := ldIE hf
        refine k_iald hx hb hK hP 1 0 rfl rfl ix134 ex134 dX8_faultOf_17 ?_
        refine lv_istore_n (lv' := [(3, .int x134), (0, .ref q_t), (1, .int w124), (2, .int w125)]) hx hb dX8_faultOf_18 rfl hl (by decide) rfl (fun ls hl => ?_)
        refine lv_iload_n hx hb dX8_faultOf_19 rfl (lv_at hl 2 rfl) ?_
        obtain ⟨j178, h244, hf⟩ := bd1E hf
        have E200 : ∀ (z179 : Int32), some z179 = some j178 → ∀ ls : Array Slot, lv_has ls 5 [(0, .ref q_t), (1, .int w124), (2, .int w125), (3, .int x134)] → W p l e (kR 2 82) s m args below meth c s.heap [] 0 0 Q (F0 m 70 ls [.int z179]) := by
          intro z179 hy; obtain rfl := sm1 hy
          intro ls hl
          refine lv_istore (lv' := [(4, .int z179), (0, .ref q_t), (1, .int w124), (2, .int w125), (3, .int x134)]) hx hb dX8_faultOf_70 hl (by decide) rfl (fun ls hl => ?_)
          refine lv_iload hx hb dX8_faultOf_72 (lv_at hl 0 rfl) ?_
          refine lv_if_ne (tgt := 79) hx hb dX8_faultOf_74 (by decide) (fun c180 => ?_) (fun c180 => ?_)
          · have hf := ifn c180 hf
            refine lv_iload_n hx hb dX8_faultOf_79 rfl (lv_at hl 2 rfl) ?_
            obtain ⟨j188, h199, hf⟩ := bd1E hf
            have E191 : ∀ (z189 : Int32), some z189 = some j188 → ∀ ls : Array Slot, lv_has ls 5 [(0, .ref q_t), (2, .int w125)] → W p l e (kR 2 82) s m args below meth c s.heap [] 0 0 Q (F0 m 94 ls [.int z189]) := by
              intro z189 hy; obtain rfl := sm1 hy
              intro ls hl
              refine lv_istore_n (lv' := [(1, .int z189), (0, .ref q_t), (2, .int w125)]) hx hb dX8_faultOf_94 rfl hl (by decide) rfl (fun ls hl => ?_)
              obtain ⟨y190, ey190⟩ : ∃ y : Int32, y = w125 + (1 : Int32) := ⟨_, rfl⟩
              have hf := nmeU ey190 hf
              refine lv_iinc (v := y190) (lv' := [(2, .int y190), (1, .int z189), (0, .ref q_t)]) hx hb dX8_faultOf_95 hl (k := 2) rfl (by rw [ey190]; rfl) (by decide) rfl (fun ls hl => ?_)
              refine lv_goto (tgt := 4) hx hb dX8_faultOf_98 (by decide) ?_
              exact ih _ _ hf ls (lv_sub hl [2, 1, 0] rfl)
            have hf := h199
            refine lv_if_ne (tgt := 93) hx hb dX8_faultOf_80 (by decide) (fun c192 => ?_) (fun c192 => ?_)
            · have hf := ifn c192 hf
              refine lv_iconst (v := (0 : Int32)) hx hb dX8_faultOf_93 (by decide) ?_
              exact E191 _ hf ls (lv_sub hl [1, 3] rfl)
            · have hf := ifp c192 hf
              refine lv_iload_n hx hb dX8_faultOf_83 rfl (lv_at hl 4 rfl) ?_
              refine lv_bipush (v := (46 : Int32)) hx hb dX8_faultOf_84 (by decide) ?_
              obtain ⟨j194, h198, hf⟩ := bd1E hf
              have E196 : ∀ (z195 : Int32), some z195 = some j194 → ∀ ls : Array Slot, lv_has ls 5 [(0, .ref q_t), (2, .int w125)] → W p l e (kR 2 82) s m args below meth c s.heap [] 0 0 Q (F0 m 94 ls [.int z195]) := by
                intro z195 hy; obtain rfl := sm1 hy
                intro ls hl
                exact E191 _ hf ls (lv_sub hl [0, 1] rfl)
              have hf := h198
              refine lv_icmp_eq (tgt := 93) hx hb dX8_faultOf_86 (by decide) (fun c197 => ?_) (fun c197 => ?_)
              · have hf := ifp c197 hf
                refine lv_iconst (v := (0 : Int32)) hx hb dX8_faultOf_93 (by decide) ?_
                exact E196 _ hf ls (lv_sub hl [1, 3] rfl)
              · have hf := ifn c197 hf
                refine lv_iconst (v := (1 : Int32)) hx hb dX8_faultOf_89 (by decide) ?_
                refine lv_goto (tgt := 94) hx hb dX8_faultOf_90 (by decide) ?_
                exact E196 _ hf ls (lv_sub hl [1, 3] rfl)
          · have hf := ifp c180 hf
            refine lv_iload_n hx hb dX8_faultOf_77 rfl (lv_at hl 3 rfl) ?_
            have hf := hr131 _ hf
            exact RT _ hf _ _ _ dX8_faultOf_78 (rkI _)
        have hf := h244
        refine lv_if_eq (tgt := 48) hx hb dX8_faultOf_20 (by decide) (fun c201 => ?_) (fun c201 => ?_)
        · have hf := ifp c201 hf
          refine lv_iload_n hx hb dX8_faultOf_48 rfl (lv_at hl 0 rfl) ?_
          refine lv_bipush (v := (65 : Int32)) hx hb dX8_faultOf_49 (by decide) ?_
          refine lv_bipush (v := (70 : Int32)) hx hb dX8_faultOf_51 (by decide) ?_
          obtain ⟨r202, h203, hf⟩ := bd1E hf
          refine kO_stat hx hb hml hown hts hK hn hP (kX8_in l D G x134 (65 : Int32) (70 : Int32) h203) csX8_61 ⟨Nat.le_of_ble_eq_true rfl, Nat.le_of_ble_eq_true rfl⟩ [] rfl rfl hl.1 rfl (Nat.le_of_ble_eq_true rfl) ⟨Nat.zero_le _, Nat.zero_le _⟩ dX8_faultOf_53 ?_
          obtain ⟨j211, h221, hf⟩ := bd1E hf
          have E213 : ∀ (z212 : Int32), some z212 = some j211 → ∀ ls : Array Slot, lv_has ls 5 [(0, .ref q_t), (1, .int w124), (2, .int w125), (3, .int x134)] → W p l e (kR 2 82) s m args below meth c s.heap [] 0 0 Q (F0 m 70 ls [.int z212]) := by
            intro z212 hy; obtain rfl := sm1 hy
            intro ls hl
            exact E200 _ hf ls (lv_sub hl [0, 1, 2, 3] rfl)
          have hf := h221
          refine lv_if_ne (tgt := 65) hx hb dX8_faultOf_56 (by decide) (fun c214 => ?_) (fun c214 => ?_)
          · have hf := ifn c214 hf
            refine lv_iconst (v := (1 : Int32)) hx hb dX8_faultOf_65 (by decide) ?_
            refine lv_goto (tgt := 70) hx hb dX8_faultOf_66 (by decide) ?_
            exact E213 _ hf ls (lv_sub hl [1, 2, 3, 0] rfl)
          · have hf := ifp c214 hf
            refine lv_iload_n hx hb dX8_faultOf_59 rfl (lv_at hl 0 rfl) ?_
            refine lv_bipush (v := (46 : Int32)) hx hb dX8_faultOf_60 (by decide) ?_
            obtain ⟨j216, h220, hf⟩ := bd1E hf
            have E218 : ∀ (z217 : Int32), some z217 = some j216 → ∀ ls : Array Slot, lv_has ls 5 [(0, .ref q_t), (1, .int w124), (2, .int w125), (3, .int x134)] → W p l e (kR 2 82) s m args below meth c s.heap [] 0 0 Q (F0 m 70 ls [.int z217]) := by
              intro z217 hy; obtain rfl := sm1 hy
              intro ls hl
              exact E213 _ hf ls (lv_sub hl [0, 1, 2, 3] rfl)
            have hf := h220
            refine lv_icmp_ne (tgt := 69) hx hb dX8_faultOf_62 (by decide) (fun c219 => ?_) (fun c219 => ?_)
            · have hf := ifn c219 hf
              refine lv_iconst (v := (0 : Int32)) hx hb dX8_faultOf_69 (by decide) ?_
              exact E218 _ hf ls (lv_sub hl [1, 2, 3, 0] rfl)
            · have hf := ifp c219 hf
              refine lv_iconst (v := (1 : Int32)) hx hb dX8_faultOf_65 (by decide) ?_
              refine lv_goto (tgt := 70) hx hb dX8_faultOf_66 (by decide) ?_
              exact E218 _ hf ls (lv_sub hl [1, 2, 3, 0] rfl)
        · have hf := ifn c201 hf
          refine lv_iload_n hx hb dX8_faultOf_23 rfl (lv_at hl 0 rfl) ?_
          refine lv_bipush (v := (33 : Int32)) hx hb dX8_faultOf_24 (by decide) ?_
          obtain ⟨j231, h243, hf⟩ := bd1E hf
          have E233 : ∀ (z232 : Int32), some z232 = some j231 → ∀ ls : Array Slot, lv_has ls 5 [(0, .ref q_t), (1, .int w124), (2, .int w125), (3, .int x134)] → W p l e (kR 2 82) s m args below meth c s.heap [] 0 0 Q (F0 m 70 ls [.int z232]) := by
            intro z232 hy; obtain rfl := sm1 hy
            intro ls hl
            exact E200 _ hf ls (lv_sub hl [0, 1, 2, 3] rfl)
          have hf := h243
          refine lv_icmp_eq (tgt := 40) hx hb dX8_faultOf_26 (by decide) (fun c234 => ?_) (fun c234 => ?_)
          · have hf := ifp c234 hf
            refine lv_iconst (v := (1 : Int32)) hx hb dX8_faultOf_40 (by decide) ?_
            refine lv_goto (tgt := 70) hx hb dX8_faultOf_41 (by decide) ?_
            exact E233 _ hf ls (lv_sub hl [1, 2, 3, 0] rfl)
          · have hf := ifn c234 hf
            refine lv_iload_n hx hb dX8_faultOf_29 rfl (lv_at hl 0 rfl) ?_
            refine lv_bipush (v := (97 : Int32)) hx hb dX8_faultOf_30 (by decide) ?_
            refine lv_bipush (v := (100 : Int32)) hx hb dX8_faultOf_32 (by decide) ?_
            obtain ⟨r235, h236, hf⟩ := bd1E hf
            refine kO_stat hx hb hml hown hts hK hn hP (kX8_in l D G x134 (97 : Int32) (100 : Int32) h236) csX8_61 ⟨Nat.le_of_ble_eq_true rfl, Nat.le_of_ble_eq_true rfl⟩ [] rfl rfl hl.1 rfl (Nat.le_of_ble_eq_true rfl) ⟨Nat.zero_le _, Nat.zero_le _⟩ dX8_faultOf_34 ?_
            obtain ⟨j238, h242, hf⟩ := bd1E hf
            have E240 : ∀ (z239 : Int32), some z239 = some j238 → ∀ ls : Array Slot, lv_has ls 5 [(0, .ref q_t), (1, .int w124), (2, .int w125), (3, .int x134)] → W p l e (kR 2 82) s m args below meth c s.heap [] 0 0 Q (F0 m 70 ls [.int z239]) := by
              intro z239 hy; obtain rfl := sm1 hy
              intro ls hl
              exact E233 _ hf ls (lv_sub hl [0, 1, 2, 3] rfl)
            have hf := h242
            refine lv_if_eq (tgt := 44) hx hb dX8_faultOf_37 (by decide) (fun c241 => ?_) (fun c241 => ?_)
            · have hf := ifp c241 hf
              refine lv_iconst (v := (0 : Int32)) hx hb dX8_faultOf_44 (by decide) ?_
              refine lv_goto (tgt := 70) hx hb dX8_faultOf_45 (by decide) ?_
              exact E240 _ hf ls (lv_sub hl [1, 2, 3, 0] rfl)
            · have hf := ifn c241 hf
              refine lv_iconst (v := (1 : Int32)) hx hb dX8_faultOf_40 (by decide) ?_
              refine lv_goto (tgt := 70) hx hb dX8_faultOf_41 (by decide) ?_
              exact E240 _ hf ls (lv_sub hl [1, 2, 3, 0] rfl)
  exact L128 fu (0 : Int32) (0 : Int32) h130 ls (lv_sub hl [2, 1, 0] rfl)
set_option maxHeartbeats 4000000 in
set_option maxRecDepth 100000 in
theorem kX8_begin (l : Launch) (D : va_G) (G : Nat → ClassId) (fu : Nat) (q_t q_t_book q_t_now q_t_does q_t_bad q_t_likes q_t_sight q_t_pad q_t_then q_t_ahead q_t_most q_t_worth q_t_damp q_t_next q_t_image q_t_isKept : Nat) (t_there : Int32) (t_sights : Int32) (t_signs : Int32) (t_worseAt : Int32) (t_worseWho : Int32) (t_hours : Int32) (t_reason : Int32) (t_acts : Int32) (t_book : Nat → Int32) (t_now : Nat → Int32) {o_t_worseAt : Int32} {o_t_worseWho : Int32} {o_t_hours : Int32} {o_t_now : Nat → Int32} (hf : fX8_begin fu t_worseAt t_worseWho t_hours t_book t_now = some (o_t_worseAt, o_t_worseWho, o_t_hours, o_t_now)) : rW l D G yX8_begin cX8_begin 1 none 2 81 [.ref q_t] [(q_t, .inr (8, [.int t_there, .ref q_t_book, .ref q_t_now, .ref q_t_does, .ref q_t_bad, .ref q_t_likes, .int t_sights, .ref q_t_sight, .int t_signs, .ref q_t_pad, .ref q_t_then, .int t_worseAt, .int t_worseWho, .int t_hours, .ref q_t_ahead, .int t_reason, .int t_acts, .ref q_t_most, .ref q_t_worth, .ref q_t_damp, .ref q_t_next, .ref q_t_image, .ref q_t_isKept])), (q_t_book, .inl (G 0, 26, .inl t_book)), (q_t_now, .inl (G 0, 26, .inl t_now))] [(q_t, .inr (8, [.int t_there, .ref q_t_book, .ref q_t_now, .ref q_t_does, .ref q_t_bad, .ref q_t_likes, .int t_sights, .ref q_t_sight, .int t_signs, .ref q_t_pad, .ref q_t_then, .int o_t_worseAt, .int o_t_worseWho, .int o_t_hours, .ref q_t_ahead, .int t_reason, .int t_acts, .ref q_t_most, .ref q_t_worth, .ref q_t_damp, .ref q_t_next, .ref q_t_image, .ref q_t_isKept])), (q_t_book, .inl (G 0, 26, .inl t_book)), (q_t_now, .inl (G 0, 26, .inl o_t_now))] none := by
  refine rW_of (by decide) (Nat.le_of_ble_eq_true rfl) ?_
  intro p e s m args below meth c Q A hx hb hml hown hts hK hn hA RET H locs hP hD hS ls hl
  have RT : ∀ (a0_ : Int32) (a1_ : Int32) (a2_ : Int32) (a3_ : Nat → Int32), some (a0_, a1_, a2_, a3_) = some (o_t_worseAt, o_t_worseWho, o_t_hours, o_t_now) → ∀ (pc : Nat) (ls : Array Slot) (ins : Instr) (H : Heap) (locs : List Loc), decode cX8_begin pc = .ok (ins, 1) → rk none none ins → va_P D vwCl [(q_t, .inr (8, [.int t_there, .ref q_t_book, .ref q_t_now, .ref q_t_does, .ref q_t_bad, .ref q_t_likes, .int t_sights, .ref q_t_sight, .int t_signs, .ref q_t_pad, .ref q_t_then, .int a0_, .int a1_, .int a2_, .ref q_t_ahead, .int t_reason, .int t_acts, .ref q_t_most, .ref q_t_worth, .ref q_t_damp, .ref q_t_next, .ref q_t_image, .ref q_t_isKept])), (q_t_book, .inl (G 0, 26, .inl t_book)), (q_t_now, .inl (G 0, 26, .inl a3_))] H → va_D A [(q_t, .inr (8, [.int t_there, .ref q_t_book, .ref q_t_now, .ref q_t_does, .ref q_t_bad, .ref q_t_likes, .int t_sights, .ref q_t_sight, .int t_signs, .ref q_t_pad, .ref q_t_then, .int a0_, .int a1_, .int a2_, .ref q_t_ahead, .int t_reason, .int t_acts, .ref q_t_most, .ref q_t_worth, .ref q_t_damp, .ref q_t_next, .ref q_t_image, .ref q_t_isKept])), (q_t_book, .inl (G 0, 26, .inl t_book)), (q_t_now, .inl (G 0, 26, .inl a3_))] → va_S A s.heap H locs → W p l e (kR 2 81) s m args below meth c H locs 0 0 Q (F0 m pc ls []) := by
    intro a0_ a1_ a2_ a3_ hy; obtain ⟨rfl, rfl, rfl, rfl⟩ := sm4 hy
    exact RET
  have hown : s.vm.findClass RX8 = some m.cls := hown
  have hl : lv_has ls 1 [(0, .ref q_t)] := hl
  clear RET
  rw [fX8_begin] at hf
  refine lv_aload_n hx hb dX8_begin_0 rfl (lv_at hl 0 rfl) ?_
  obtain ⟨o1, h2, hf⟩ := bd1E hf
  refine kW_virt0 hx hb hml hown hts hK hn hA hP hD hS (kX8_asNow l D G fu q_t q_t_book q_t_now q_t_does q_t_bad q_t_likes q_t_sight q_t_pad q_t_then q_t_ahead q_t_most q_t_worth q_t_damp q_t_next q_t_image q_t_isKept t_there t_sights t_signs t_worseAt t_worseWho t_hours t_reason t_acts t_book t_now h2) cvX8_105 ⟨Nat.le_of_ble_eq_true rfl, Nat.le_of_ble_eq_true rfl⟩ [0, 1, 2] rfl rfl [true, true, true] rfl (w3 := [(q_t, .inr (8, [.int t_there, .ref q_t_book, .ref q_t_now, .ref q_t_does, .ref q_t_bad, .ref q_t_likes, .int t_sights, .ref q_t_sight, .int t_signs, .ref q_t_pad, .ref q_t_then, .int t_worseAt, .int t_worseWho, .int t_hours, .ref q_t_ahead, .int t_reason, .int t_acts, .ref q_t_most, .ref q_t_worth, .ref q_t_damp, .ref q_t_next, .ref q_t_image, .ref q_t_isKept])), (q_t_book, .inl (G 0, 26, .inl t_book)), (q_t_now, .inl (G 0, 26, .inl o1))]) [0, 1, 2] rfl rfl 0 rfl rfl rfl hl.1 rfl (Nat.le_of_ble_eq_true rfl) ⟨Nat.zero_le _, Nat.zero_le _⟩ dX8_begin_1 (fun H locs hP hD hS => ?_)
  have hP : va_P D vwCl [(q_t, .inr (8, [.int t_there, .ref q_t_book, .ref q_t_now, .ref q_t_does, .ref q_t_bad, .ref q_t_likes, .int t_sights, .ref q_t_sight, .int t_signs, .ref q_t_pad, .ref q_t_then, .int t_worseAt, .int t_worseWho, .int t_hours, .ref q_t_ahead, .int t_reason, .int t_acts, .ref q_t_most, .ref q_t_worth, .ref q_t_damp, .ref q_t_next, .ref q_t_image, .ref q_t_isKept])), (q_t_book, .inl (G 0, 26, .inl t_book)), (q_t_now, .inl (G 0, 26, .inl o1))] H := hP
  have hD : va_D A [(q_t, .inr (8, [.int t_there, .ref q_t_book, .ref q_t_now, .ref q_t_does, .ref q_t_bad, .ref q_t_likes, .int t_sights, .ref q_t_sight, .int t_signs, .ref q_t_pad, .ref q_t_then, .int t_worseAt, .int t_worseWho, .int t_hours, .ref q_t_ahead, .int t_reason, .int t_acts, .ref q_t_most, .ref q_t_worth, .ref q_t_damp, .ref q_t_next, .ref q_t_image, .ref q_t_isKept])), (q_t_book, .inl (G 0, 26, .inl t_book)), (q_t_now, .inl (G 0, 26, .inl o1))] := hD
  refine lv_aload_n hx hb dX8_begin_4 rfl (lv_at hl 0 rfl) ?_
  refine lv_bipush (v := (-6 : Int32)) hx hb dX8_begin_5 (by decide) ?_
  refine va_put (D := D) (ci := 8) (v := .int (-6 : Int32)) (ty := .int) (C := RX8) (T := TX8) (N := 23) hx hb hts inX8 tyX8 tyX8_ok nmX8 hown hK hP hD hS 0 rfl rfl 11 (by decide) (hts _ lfX8_96) (fun _ h9 => h9) rfl (tyX8_ok 11 (by decide)) rfl rfl (Nat.le_of_ble_eq_true rfl) dX8_begin_7 (fun H locs hP hD hS => ?_)
  have hP : va_P D vwCl [(q_t, .inr (8, [.int t_there, .ref q_t_book, .ref q_t_now, .ref q_t_does, .ref q_t_bad, .ref q_t_likes, .int t_sights, .ref q_t_sight, .int t_signs, .ref q_t_pad, .ref q_t_then, .int (-6 : Int32), .int t_worseWho, .int t_hours, .ref q_t_ahead, .int t_reason, .int t_acts, .ref q_t_most, .ref q_t_worth, .ref q_t_damp, .ref q_t_next, .ref q_t_image, .ref q_t_isKept])), (q_t_book, .inl (G 0, 26, .inl t_book)), (q_t_now, .inl (G 0, 26, .inl o1))] H := hP
  have hD : va_D A [(q_t, .inr (8, [.int t_there, .ref q_t_book, .ref q_t_now, .ref q_t_does, .ref q_t_bad, .ref q_t_likes, .int t_sights, .ref q_t_sight, .int t_signs, .ref q_t_pad, .ref q_t_then, .int (-6 : Int32), .int t_worseWho, .int t_hours, .ref q_t_ahead, .int t_reason, .int t_acts, .ref q_t_most, .ref q_t_worth, .ref q_t_damp, .ref q_t_next, .ref q_t_image, .ref q_t_isKept])), (q_t_book, .inl (G 0, 26, .inl t_book)), (q_t_now, .inl (G 0, 26, .inl o1))] := hD
  refine lv_aload_n hx hb dX8_begin_10 rfl (lv_at hl 0 rfl) ?_
  refine lv_bipush (v := (-6 : Int32)) hx hb dX8_begin_11 (by decide) ?_
  refine va_put (D := D) (ci := 8) (v := .int (-6 : Int32)) (ty := .int) (C := RX8) (T := TX8) (N := 23) hx hb hts inX8 tyX8 tyX8_ok nmX8 hown hK hP hD hS 0 rfl rfl 12 (by decide) (hts _ lfX8_102) (fun _ h9 => h9) rfl (tyX8_ok 12 (by decide)) rfl rfl (Nat.le_of_ble_eq_true rfl) dX8_begin_13 (fun H locs hP hD hS => ?_)
  have hP : va_P D vwCl [(q_t, .inr (8, [.int t_there, .ref q_t_book, .ref q_t_now, .ref q_t_does, .ref q_t_bad, .ref q_t_likes, .int t_sights, .ref q_t_sight, .int t_signs, .ref q_t_pad, .ref q_t_then, .int (-6 : Int32), .int (-6 : Int32), .int t_hours, .ref q_t_ahead, .int t_reason, .int t_acts, .ref q_t_most, .ref q_t_worth, .ref q_t_damp, .ref q_t_next, .ref q_t_image, .ref q_t_isKept])), (q_t_book, .inl (G 0, 26, .inl t_book)), (q_t_now, .inl (G 0, 26, .inl o1))] H := hP
  have hD : va_D A [(q_t, .inr (8, [.int t_there, .ref q_t_book, .ref q_t_now, .ref q_t_does, .ref q_t_bad, .ref q_t_likes, .int t_sights, .ref q_t_sight, .int t_signs, .ref q_t_pad, .ref q_t_then, .int (-6 : Int32), .int (-6 : Int32), .int t_hours, .ref q_t_ahead, .int t_reason, .int t_acts, .ref q_t_most, .ref q_t_worth, .ref q_t_damp, .ref q_t_next, .ref q_t_image, .ref q_t_isKept])), (q_t_book, .inl (G 0, 26, .inl t_book)), (q_t_now, .inl (G 0, 26, .inl o1))] := hD
  refine lv_aload_n hx hb dX8_begin_16 rfl (lv_at hl 0 rfl) ?_
  refine lv_iconst (v := (0 : Int32)) hx hb dX8_begin_17 (by decide) ?_
  refine va_put (D := D) (ci := 8) (v := .int (0 : Int32)) (ty := .int) (C := RX8) (T := TX8) (N := 23) hx hb hts inX8 tyX8 tyX8_ok nmX8 hown hK hP hD hS 0 rfl rfl 13 (by decide) (hts _ lfX8_99) (fun _ h9 => h9) rfl (tyX8_ok 13 (by decide)) rfl rfl (Nat.le_of_ble_eq_true rfl) dX8_begin_18 (fun H locs hP hD hS => ?_)
  have hP : va_P D vwCl [(q_t, .inr (8, [.int t_there, .ref q_t_book, .ref q_t_now, .ref q_t_does, .ref q_t_bad, .ref q_t_likes, .int t_sights, .ref q_t_sight, .int t_signs, .ref q_t_pad, .ref q_t_then, .int (-6 : Int32), .int (-6 : Int32), .int (0 : Int32), .ref q_t_ahead, .int t_reason, .int t_acts, .ref q_t_most, .ref q_t_worth, .ref q_t_damp, .ref q_t_next, .ref q_t_image, .ref q_t_isKept])), (q_t_book, .inl (G 0, 26, .inl t_book)), (q_t_now, .inl (G 0, 26, .inl o1))] H := hP
  have hD : va_D A [(q_t, .inr (8, [.int t_there, .ref q_t_book, .ref q_t_now, .ref q_t_does, .ref q_t_bad, .ref q_t_likes, .int t_sights, .ref q_t_sight, .int t_signs, .ref q_t_pad, .ref q_t_then, .int (-6 : Int32), .int (-6 : Int32), .int (0 : Int32), .ref q_t_ahead, .int t_reason, .int t_acts, .ref q_t_most, .ref q_t_worth, .ref q_t_damp, .ref q_t_next, .ref q_t_image, .ref q_t_isKept])), (q_t_book, .inl (G 0, 26, .inl t_book)), (q_t_now, .inl (G 0, 26, .inl o1))] := hD
  exact RT _ _ _ _ hf _ _ _ H locs dX8_begin_21 rkV hP hD hS
set_option maxHeartbeats 4000000 in
set_option maxRecDepth 100000 in
theorem kX8_pass (l : Launch) (D : va_G) (G : Nat → ClassId) (fu : Nat) (q_t q_t_book q_t_now q_t_does q_t_bad q_t_likes q_t_sight q_t_pad q_t_then q_t_ahead q_t_most q_t_worth q_t_damp q_t_next q_t_image q_t_isKept : Nat) (t_there : Int32) (t_sights : Int32) (t_signs : Int32) (t_worseAt : Int32) (t_worseWho : Int32) (t_hours : Int32) (t_reason : Int32) (t_acts : Int32) (t_now : Nat → Int32) (t_does : Nat → Int32) (t_bad : Nat → Int32) (t_then : Nat → Int32) (t_ahead : Nat → Int32) {r : Int32} {o_t_worseAt : Int32} {o_t_worseWho : Int32} {o_t_hours : Int32} {o_t_now : Nat → Int32} {o_t_then : Nat → Int32} {o_t_ahead : Nat → Int32} (hf : fX8_pass fu t_there t_worseAt t_worseWho t_hours t_now t_does t_bad t_then t_ahead = some (r, o_t_worseAt, o_t_worseWho, o_t_hours, o_t_now, o_t_then, o_t_ahead)) : rW l D G yX8_pass cX8_pass 2 (some .int) 3 106 [.ref q_t] [(q_t, .inr (8, [.int t_there, .ref q_t_book, .ref q_t_now, .ref q_t_does, .ref q_t_bad, .ref q_t_likes, .int t_sights, .ref q_t_sight, .int t_signs, .ref q_t_pad, .ref q_t_then, .int t_worseAt, .int t_worseWho, .int t_hours, .ref q_t_ahead, .int t_reason, .int t_acts, .ref q_t_most, .ref q_t_worth, .ref q_t_damp, .ref q_t_next, .ref q_t_image, .ref q_t_isKept])), (q_t_now, .inl (G 0, 26, .inl t_now)), (q_t_does, .inl (G 0, 12, .inl t_does)), (q_t_bad, .inl (G 0, 36, .inl t_bad)), (q_t_then, .inl (G 0, 18, .inl t_then)), (q_t_ahead, .inl (G 0, 6, .inl t_ahead))] [(q_t, .inr (8, [.int t_there, .ref q_t_book, .ref q_t_now, .ref q_t_does, .ref q_t_bad, .ref q_t_likes, .int t_sights, .ref q_t_sight, .int t_signs, .ref q_t_pad, .ref q_t_then, .int o_t_worseAt, .int o_t_worseWho, .int o_t_hours, .ref q_t_ahead, .int t_reason, .int t_acts, .ref q_t_most, .ref q_t_worth, .ref q_t_damp, .ref q_t_next, .ref q_t_image, .ref q_t_isKept])), (q_t_now, .inl (G 0, 26, .inl o_t_now)), (q_t_does, .inl (G 0, 12, .inl t_does)), (q_t_bad, .inl (G 0, 36, .inl t_bad)), (q_t_then, .inl (G 0, 18, .inl o_t_then)), (q_t_ahead, .inl (G 0, 6, .inl o_t_ahead))] (some (.int r)) := by
  refine rW_of (by decide) (Nat.le_of_ble_eq_true rfl) ?_
  intro p e s m args below meth c Q A hx hb hml hown hts hK hn hA RET H locs hP hD hS ls hl
  have RT : ∀ (a0_ : Int32) (a1_ : Int32) (a2_ : Int32) (a3_ : Int32) (a4_ : Nat → Int32) (a5_ : Nat → Int32) (a6_ : Nat → Int32), some (a0_, a1_, a2_, a3_, a4_, a5_, a6_) = some (r, o_t_worseAt, o_t_worseWho, o_t_hours, o_t_now, o_t_then, o_t_ahead) → ∀ (pc : Nat) (ls : Array Slot) (ins : Instr) (H : Heap) (locs : List Loc), decode cX8_pass pc = .ok (ins, 1) → rk (some .int) (some (.int a0_)) ins → va_P D vwCl [(q_t, .inr (8, [.int t_there, .ref q_t_book, .ref q_t_now, .ref q_t_does, .ref q_t_bad, .ref q_t_likes, .int t_sights, .ref q_t_sight, .int t_signs, .ref q_t_pad, .ref q_t_then, .int a1_, .int a2_, .int a3_, .ref q_t_ahead, .int t_reason, .int t_acts, .ref q_t_most, .ref q_t_worth, .ref q_t_damp, .ref q_t_next, .ref q_t_image, .ref q_t_isKept])), (q_t_now, .inl (G 0, 26, .inl a4_)), (q_t_does, .inl (G 0, 12, .inl t_does)), (q_t_bad, .inl (G 0, 36, .inl t_bad)), (q_t_then, .inl (G 0, 18, .inl a5_)), (q_t_ahead, .inl (G 0, 6, .inl a6_))] H → va_D A [(q_t, .inr (8, [.int t_there, .ref q_t_book, .ref q_t_now, .ref q_t_does, .ref q_t_bad, .ref q_t_likes, .int t_sights, .ref q_t_sight, .int t_signs, .ref q_t_pad, .ref q_t_then, .int a1_, .int a2_, .int a3_, .ref q_t_ahead, .int t_reason, .int t_acts, .ref q_t_most, .ref q_t_worth, .ref q_t_damp, .ref q_t_next, .ref q_t_image, .ref q_t_isKept])), (q_t_now, .inl (G 0, 26, .inl a4_)), (q_t_does, .inl (G 0, 12, .inl t_does)), (q_t_bad, .inl (G 0, 36, .inl t_bad)), (q_t_then, .inl (G 0, 18, .inl a5_)), (q_t_ahead, .inl (G 0, 6, .inl a6_))] → va_S A s.heap H locs → W p l e (kR 3 106) s m args below meth c H locs 0 0 Q (F0 m pc ls [.int a0_]) := by
    intro a0_ a1_ a2_ a3_ a4_ a5_ a6_ hy; obtain ⟨rfl, rfl, rfl, rfl, rfl, rfl, rfl⟩ := sm7 hy
    exact RET
  have hown : s.vm.findClass RX8 = some m.cls := hown
  have hl : lv_has ls 2 [(0, .ref q_t)] := hl
  clear RET
  rw [fX8_pass] at hf
  refine lv_aload_n hx hb dX8_pass_0 rfl (lv_at hl 0 rfl) ?_
  refine va_get (D := D) (ci := 8) (v := .ref q_t_now) (C := RX8) (T := TX8) (N := 23) hx hb hts inX8 hown hK hP 0 rfl rfl 2 (by decide) (hts _ lfX8_13) (fun _ h9 => h9) rfl dX8_pass_1 ?_
  refine lv_bipush (v := (25 : Int32)) hx hb dX8_pass_4 (by decide) ?_
  obtain ⟨x1, ex1, ix1, hf⟩ := ldIE hf
  refine k_iald hx hb hK hP 1 0 rfl rfl ix1 ex1 dX8_pass_6 ?_
  refine lv_bipush (v := (99 : Int32)) hx hb dX8_pass_7 (by decide) ?_
  refine lv_icmp_ne (tgt := 14) hx hb dX8_pass_9 (by decide) (fun c2 => ?_) (fun c2 => ?_)
  · have hf := ifn c2 hf
    refine lv_iconst (v := (0 : Int32)) hx hb dX8_pass_14 (by decide) ?_
    refine lv_istore_n (lv' := [(1, .int (0 : Int32)), (0, .ref q_t)]) hx hb dX8_pass_15 rfl hl (by decide) rfl (fun ls hl => ?_)
    obtain ⟨u24, h28, hf⟩ := bd1E hf
    have E25 : ∀ (z36 : Nat → Int32), some z36 = some u24 → ∀ (H : Heap) (locs : List Loc), va_P D vwCl [(q_t, .inr (8, [.int t_there, .ref q_t_book, .ref q_t_now, .ref q_t_does, .ref q_t_bad, .ref q_t_likes, .int t_sights, .ref q_t_sight, .int t_signs, .ref q_t_pad, .ref q_t_then, .int t_worseAt, .int t_worseWho, .int t_hours, .ref q_t_ahead, .int t_reason, .int t_acts, .ref q_t_most, .ref q_t_worth, .ref q_t_damp, .ref q_t_next, .ref q_t_image, .ref q_t_isKept])), (q_t_now, .inl (G 0, 26, .inl t_now)), (q_t_does, .inl (G 0, 12, .inl t_does)), (q_t_bad, .inl (G 0, 36, .inl t_bad)), (q_t_then, .inl (G 0, 18, .inl t_then)), (q_t_ahead, .inl (G 0, 6, .inl z36))] H → va_D A [(q_t, .inr (8, [.int t_there, .ref q_t_book, .ref q_t_now, .ref q_t_does, .ref q_t_bad, .ref q_t_likes, .int t_sights, .ref q_t_sight, .int t_signs, .ref q_t_pad, .ref q_t_then, .int t_worseAt, .int t_worseWho, .int t_hours, .ref q_t_ahead, .int t_reason, .int t_acts, .ref q_t_most, .ref q_t_worth, .ref q_t_damp, .ref q_t_next, .ref q_t_image, .ref q_t_isKept])), (q_t_now, .inl (G 0, 26, .inl t_now)), (q_t_does, .inl (G 0, 12, .inl t_does)), (q_t_bad, .inl (G 0, 36, .inl t_bad)), (q_t_then, .inl (G 0, 18, .inl t_then)), (q_t_ahead, .inl (G 0, 6, .inl z36))] → va_S A s.heap H locs → ∀ ls : Array Slot, lv_has ls 2 [(0, .ref q_t)] → W p l e (kR 3 106) s m args below meth c H locs 0 0 Q (F0 m 39 ls []) := by
      intro z36 hy; obtain rfl := sm1 hy
      intro H locs hP hD hS ls hl
      refine lv_aload_n hx hb dX8_pass_39 rfl (lv_at hl 0 rfl) ?_
      obtain ⟨o37, o38, h39, hf⟩ := bd2E hf
      refine kW_virt0 hx hb hml hown hts hK hn hA hP hD hS (kX8_hour l D G fu q_t q_t_book q_t_now q_t_does q_t_bad q_t_likes q_t_sight q_t_pad q_t_then q_t_ahead q_t_most q_t_worth q_t_damp q_t_next q_t_image q_t_isKept t_there t_sights t_signs t_worseAt t_worseWho t_hours t_reason t_acts t_now t_does t_bad t_then h39) cvX8_93 ⟨Nat.le_of_ble_eq_true rfl, Nat.le_of_ble_eq_true rfl⟩ [0, 1, 2, 3, 4] rfl rfl [true, true, true, true, true] rfl (w3 := [(q_t, .inr (8, [.int t_there, .ref q_t_book, .ref q_t_now, .ref q_t_does, .ref q_t_bad, .ref q_t_likes, .int t_sights, .ref q_t_sight, .int t_signs, .ref q_t_pad, .ref q_t_then, .int t_worseAt, .int t_worseWho, .int t_hours, .ref q_t_ahead, .int t_reason, .int t_acts, .ref q_t_most, .ref q_t_worth, .ref q_t_damp, .ref q_t_next, .ref q_t_image, .ref q_t_isKept])), (q_t_now, .inl (G 0, 26, .inl o37)), (q_t_does, .inl (G 0, 12, .inl t_does)), (q_t_bad, .inl (G 0, 36, .inl t_bad)), (q_t_then, .inl (G 0, 18, .inl o38))]) [0, 1, 2, 3, 4] rfl rfl 0 rfl rfl rfl hl.1 rfl (Nat.le_of_ble_eq_true rfl) ⟨Nat.zero_le _, Nat.zero_le _⟩ dX8_pass_40 (fun H locs hP hD hS => ?_)
      have hP : va_P D vwCl [(q_t, .inr (8, [.int t_there, .ref q_t_book, .ref q_t_now, .ref q_t_does, .ref q_t_bad, .ref q_t_likes, .int t_sights, .ref q_t_sight, .int t_signs, .ref q_t_pad, .ref q_t_then, .int t_worseAt, .int t_worseWho, .int t_hours, .ref q_t_ahead, .int t_reason, .int t_acts, .ref q_t_most, .ref q_t_worth, .ref q_t_damp, .ref q_t_next, .ref q_t_image, .ref q_t_isKept])), (q_t_now, .inl (G 0, 26, .inl o37)), (q_t_does, .inl (G 0, 12, .inl t_does)), (q_t_bad, .inl (G 0, 36, .inl t_bad)), (q_t_then, .inl (G 0, 18, .inl o38)), (q_t_ahead, .inl (G 0, 6, .inl z36))] H := hP
      have hD : va_D A [(q_t, .inr (8, [.int t_there, .ref q_t_book, .ref q_t_now, .ref q_t_does, .ref q_t_bad, .ref q_t_likes, .int t_sights, .ref q_t_sight, .int t_signs, .ref q_t_pad, .ref q_t_then, .int t_worseAt, .int t_worseWho, .int t_hours, .ref q_t_ahead, .int t_reason, .int t_acts, .ref q_t_most, .ref q_t_worth, .ref q_t_damp, .ref q_t_next, .ref q_t_image, .ref q_t_isKept])), (q_t_now, .inl (G 0, 26, .inl o37)), (q_t_does, .inl (G 0, 12, .inl t_does)), (q_t_bad, .inl (G 0, 36, .inl t_bad)), (q_t_then, .inl (G 0, 18, .inl o38)), (q_t_ahead, .inl (G 0, 6, .inl z36))] := hD
      refine lv_iconst (v := (5 : Int32)) hx hb dX8_pass_43 (by decide) ?_
      refine lv_istore_n (lv' := [(1, .int (5 : Int32)), (0, .ref q_t)]) hx hb dX8_pass_44 rfl hl (by decide) rfl (fun ls hl => ?_)
      obtain ⟨u126, u127, h131, hf⟩ := bd2E hf
      have E128 : ∀ (z203 : Int32) (z204 : Int32), some (z203, z204) = some (u126, u127) → ∀ (H : Heap) (locs : List Loc), va_P D vwCl [(q_t, .inr (8, [.int t_there, .ref q_t_book, .ref q_t_now, .ref q_t_does, .ref q_t_bad, .ref q_t_likes, .int t_sights, .ref q_t_sight, .int t_signs, .ref q_t_pad, .ref q_t_then, .int z203, .int z204, .int t_hours, .ref q_t_ahead, .int t_reason, .int t_acts, .ref q_t_most, .ref q_t_worth, .ref q_t_damp, .ref q_t_next, .ref q_t_image, .ref q_t_isKept])), (q_t_now, .inl (G 0, 26, .inl o37)), (q_t_does, .inl (G 0, 12, .inl t_does)), (q_t_bad, .inl (G 0, 36, .inl t_bad)), (q_t_then, .inl (G 0, 18, .inl o38)), (q_t_ahead, .inl (G 0, 6, .inl z36))] H → va_D A [(q_t, .inr (8, [.int t_there, .ref q_t_book, .ref q_t_now, .ref q_t_does, .ref q_t_bad, .ref q_t_likes, .int t_sights, .ref q_t_sight, .int t_signs, .ref q_t_pad, .ref q_t_then, .int z203, .int z204, .int t_hours, .ref q_t_ahead, .int t_reason, .int t_acts, .ref q_t_most, .ref q_t_worth, .ref q_t_damp, .ref q_t_next, .ref q_t_image, .ref q_t_isKept])), (q_t_now, .inl (G 0, 26, .inl o37)), (q_t_does, .inl (G 0, 12, .inl t_does)), (q_t_bad, .inl (G 0, 36, .inl t_bad)), (q_t_then, .inl (G 0, 18, .inl o38)), (q_t_ahead, .inl (G 0, 6, .inl z36))] → va_S A s.heap H locs → ∀ ls : Array Slot, lv_has ls 2 [(0, .ref q_t)] → W p l e (kR 3 106) s m args below meth c H locs 0 0 Q (F0 m 111 ls []) := by
        intro z203 z204 hy; obtain ⟨rfl, rfl⟩ := sm2 hy
        intro H locs hP hD hS ls hl
        refine lv_aload_n hx hb dX8_pass_111 rfl (lv_at hl 0 rfl) ?_
        refine va_get (D := D) (ci := 8) (v := .ref q_t_now) (C := RX8) (T := TX8) (N := 23) hx hb hts inX8 hown hK hP 0 rfl rfl 2 (by decide) (hts _ lfX8_13) (fun _ h9 => h9) rfl dX8_pass_112 ?_
        refine lv_bipush (v := (25 : Int32)) hx hb dX8_pass_115 (by decide) ?_
        refine lv_dup2_11 hx hb dX8_pass_117 rfl rfl ?_
        obtain ⟨x205, ex205, ix205, hf⟩ := ldIE hf
        refine k_iald hx hb hK hP 1 0 rfl rfl ix205 ex205 dX8_pass_118 ?_
        refine lv_iconst (v := (1 : Int32)) hx hb dX8_pass_119 (by decide) ?_
        refine lv_iadd hx hb dX8_pass_120 ?_
        obtain ⟨g206, eg206, ig206, hf⟩ := stIE hf
        refine k_iast hx hb hK hP hD hS 1 0 rfl rfl ig206 eg206 dX8_pass_121 (fun H locs hP hD hS => ?_)
        have hP : va_P D vwCl [(q_t, .inr (8, [.int t_there, .ref q_t_book, .ref q_t_now, .ref q_t_does, .ref q_t_bad, .ref q_t_likes, .int t_sights, .ref q_t_sight, .int t_signs, .ref q_t_pad, .ref q_t_then, .int z203, .int z204, .int t_hours, .ref q_t_ahead, .int t_reason, .int t_acts, .ref q_t_most, .ref q_t_worth, .ref q_t_damp, .ref q_t_next, .ref q_t_image, .ref q_t_isKept])), (q_t_now, .inl (G 0, 26, .inl g206)), (q_t_does, .inl (G 0, 12, .inl t_does)), (q_t_bad, .inl (G 0, 36, .inl t_bad)), (q_t_then, .inl (G 0, 18, .inl o38)), (q_t_ahead, .inl (G 0, 6, .inl z36))] H := hP
        have hD : va_D A [(q_t, .inr (8, [.int t_there, .ref q_t_book, .ref q_t_now, .ref q_t_does, .ref q_t_bad, .ref q_t_likes, .int t_sights, .ref q_t_sight, .int t_signs, .ref q_t_pad, .ref q_t_then, .int z203, .int z204, .int t_hours, .ref q_t_ahead, .int t_reason, .int t_acts, .ref q_t_most, .ref q_t_worth, .ref q_t_damp, .ref q_t_next, .ref q_t_image, .ref q_t_isKept])), (q_t_now, .inl (G 0, 26, .inl g206)), (q_t_does, .inl (G 0, 12, .inl t_does)), (q_t_bad, .inl (G 0, 36, .inl t_bad)), (q_t_then, .inl (G 0, 18, .inl o38)), (q_t_ahead, .inl (G 0, 6, .inl z36))] := hD
        refine lv_aload_n hx hb dX8_pass_122 rfl (lv_at hl 0 rfl) ?_
        refine lv_dup hx hb dX8_pass_123 rfl ?_
        refine va_get (D := D) (ci := 8) (v := .int t_hours) (C := RX8) (T := TX8) (N := 23) hx hb hts inX8 hown hK hP 0 rfl rfl 13 (by decide) (hts _ lfX8_99) (fun _ h9 => h9) rfl dX8_pass_124 ?_
        refine lv_iconst (v := (1 : Int32)) hx hb dX8_pass_127 (by decide) ?_
        refine lv_iadd hx hb dX8_pass_128 ?_
        refine lv_topi (fun y207 ey207 => ?_)
        have hf := nmeU ey207 hf
        refine va_put (D := D) (ci := 8) (v := .int y207) (ty := .int) (C := RX8) (T := TX8) (N := 23) hx hb hts inX8 tyX8 tyX8_ok nmX8 hown hK hP hD hS 0 rfl rfl 13 (by decide) (hts _ lfX8_99) (fun _ h9 => h9) rfl (tyX8_ok 13 (by decide)) rfl rfl (Nat.le_of_ble_eq_true rfl) dX8_pass_129 (fun H locs hP hD hS => ?_)
        have hP : va_P D vwCl [(q_t, .inr (8, [.int t_there, .ref q_t_book, .ref q_t_now, .ref q_t_does, .ref q_t_bad, .ref q_t_likes, .int t_sights, .ref q_t_sight, .int t_signs, .ref q_t_pad, .ref q_t_then, .int z203, .int z204, .int y207, .ref q_t_ahead, .int t_reason, .int t_acts, .ref q_t_most, .ref q_t_worth, .ref q_t_damp, .ref q_t_next, .ref q_t_image, .ref q_t_isKept])), (q_t_now, .inl (G 0, 26, .inl g206)), (q_t_does, .inl (G 0, 12, .inl t_does)), (q_t_bad, .inl (G 0, 36, .inl t_bad)), (q_t_then, .inl (G 0, 18, .inl o38)), (q_t_ahead, .inl (G 0, 6, .inl z36))] H := hP
        have hD : va_D A [(q_t, .inr (8, [.int t_there, .ref q_t_book, .ref q_t_now, .ref q_t_does, .ref q_t_bad, .ref q_t_likes, .int t_sights, .ref q_t_sight, .int t_signs, .ref q_t_pad, .ref q_t_then, .int z203, .int z204, .int y207, .ref q_t_ahead, .int t_reason, .int t_acts, .ref q_t_most, .ref q_t_worth, .ref q_t_damp, .ref q_t_next, .ref q_t_image, .ref q_t_isKept])), (q_t_now, .inl (G 0, 26, .inl g206)), (q_t_does, .inl (G 0, 12, .inl t_does)), (q_t_bad, .inl (G 0, 36, .inl t_bad)), (q_t_then, .inl (G 0, 18, .inl o38)), (q_t_ahead, .inl (G 0, 6, .inl z36))] := hD
        refine lv_iconst (v := (0 : Int32)) hx hb dX8_pass_132 (by decide) ?_
        exact RT _ _ _ _ _ _ _ hf _ _ _ H locs dX8_pass_133 (rkI _) hP hD hS
      have L129 : ∀ (k : Nat) (w123 : Int32) (w124 : Int32) (w125 : Int32), fX8_pass_45 t_there o37 z36 t_hours k w123 w124 w125 = some (u126, u127) → ∀ (H : Heap) (locs : List Loc), va_P D vwCl [(q_t, .inr (8, [.int t_there, .ref q_t_book, .ref q_t_now, .ref q_t_does, .ref q_t_bad, .ref q_t_likes, .int t_sights, .ref q_t_sight, .int t_signs, .ref q_t_pad, .ref q_t_then, .int w124, .int w125, .int t_hours, .ref q_t_ahead, .int t_reason, .int t_acts, .ref q_t_most, .ref q_t_worth, .ref q_t_damp, .ref q_t_next, .ref q_t_image, .ref q_t_isKept])), (q_t_now, .inl (G 0, 26, .inl o37)), (q_t_does, .inl (G 0, 12, .inl t_does)), (q_t_bad, .inl (G 0, 36, .inl t_bad)), (q_t_then, .inl (G 0, 18, .inl o38)), (q_t_ahead, .inl (G 0, 6, .inl z36))] H → va_D A [(q_t, .inr (8, [.int t_there, .ref q_t_book, .ref q_t_now, .ref q_t_does, .ref q_t_bad, .ref q_t_likes, .int t_sights, .ref q_t_sight, .int t_signs, .ref q_t_pad, .ref q_t_then, .int w124, .int w125, .int t_hours, .ref q_t_ahead, .int t_reason, .int t_acts, .ref q_t_most, .ref q_t_worth, .ref q_t_damp, .ref q_t_next, .ref q_t_image, .ref q_t_isKept])), (q_t_now, .inl (G 0, 26, .inl o37)), (q_t_does, .inl (G 0, 12, .inl t_does)), (q_t_bad, .inl (G 0, 36, .inl t_bad)), (q_t_then, .inl (G 0, 18, .inl o38)), (q_t_ahead, .inl (G 0, 6, .inl z36))] → va_S A s.heap H locs → ∀ ls : Array Slot, lv_has ls 2 [(0, .ref q_t), (1, .int w123)] → W p l e (kR 3 106) s m args below meth c H locs 0 0 Q (F0 m 45 ls []) := by
        intro k; induction k with
        | zero => intro w123 w124 w125 hf; exact nosome hf
        | succ k ih =>
          intro w123 w124 w125 hf; rw [fX8_pass_45] at hf
          intro H locs hP hD hS ls hl
          refine lv_iload_n hx hb dX8_pass_45 rfl (lv_at hl 1 rfl) ?_
          refine lv_if_lt (tgt := 111) hx hb dX8_pass_46 (by decide) (fun c134 => ?_) (fun c134 => ?_)
          · have hf := ifp c134 hf
            exact E128 _ _ hf H locs hP hD hS ls (lv_sub hl [0] rfl)
          · have hf := ifn c134 hf
            refine lv_aload_n hx hb dX8_pass_49 rfl (lv_at hl 0 rfl) ?_
            refine va_get (D := D) (ci := 8) (v := .int w124) (C := RX8) (T := TX8) (N := 23) hx hb hts inX8 hown hK hP 0 rfl rfl 11 (by decide) (hts _ lfX8_96) (fun _ h9 => h9) rfl dX8_pass_50 ?_
            refine lv_if_lt (tgt := 67) hx hb dX8_pass_53 (by decide) (fun c135 => ?_) (fun c135 => ?_)
            · have hf := ifp c135 hf
              refine lv_aload_n hx hb dX8_pass_67 rfl (lv_at hl 0 rfl) ?_
              refine va_get (D := D) (ci := 8) (v := .int t_there) (C := RX8) (T := TX8) (N := 23) hx hb hts inX8 hown hK hP 0 rfl rfl 0 (by decide) (hts _ lfX8_57) (fun _ h9 => h9) rfl dX8_pass_68 ?_
              refine lv_iload_n hx hb dX8_pass_71 rfl (lv_at hl 1 rfl) ?_
              obtain ⟨r136, h137, hf⟩ := bd1E hf
              refine kO_stat hx hb hml hown hts hK hn hP (kX8_has l D G t_there w123 h137) csX8_65 ⟨Nat.le_of_ble_eq_true rfl, Nat.le_of_ble_eq_true rfl⟩ [] rfl rfl hl.1 rfl (Nat.le_of_ble_eq_true rfl) ⟨Nat.zero_le _, Nat.zero_le _⟩ dX8_pass_72 ?_
              obtain ⟨j150, j151, h168, hf⟩ := bd2E hf
              have E155 : ∀ (z152 : Int32) (z153 : Int32), some (z152, z153) = some (j150, j151) → ∀ (H : Heap) (locs : List Loc), va_P D vwCl [(q_t, .inr (8, [.int t_there, .ref q_t_book, .ref q_t_now, .ref q_t_does, .ref q_t_bad, .ref q_t_likes, .int t_sights, .ref q_t_sight, .int t_signs, .ref q_t_pad, .ref q_t_then, .int z152, .int z153, .int t_hours, .ref q_t_ahead, .int t_reason, .int t_acts, .ref q_t_most, .ref q_t_worth, .ref q_t_damp, .ref q_t_next, .ref q_t_image, .ref q_t_isKept])), (q_t_now, .inl (G 0, 26, .inl o37)), (q_t_does, .inl (G 0, 12, .inl t_does)), (q_t_bad, .inl (G 0, 36, .inl t_bad)), (q_t_then, .inl (G 0, 18, .inl o38)), (q_t_ahead, .inl (G 0, 6, .inl z36))] H → va_D A [(q_t, .inr (8, [.int t_there, .ref q_t_book, .ref q_t_now, .ref q_t_does, .ref q_t_bad, .ref q_t_likes, .int t_sights, .ref q_t_sight, .int t_signs, .ref q_t_pad, .ref q_t_then, .int z152, .int z153, .int t_hours, .ref q_t_ahead, .int t_reason, .int t_acts, .ref q_t_most, .ref q_t_worth, .ref q_t_damp, .ref q_t_next, .ref q_t_image, .ref q_t_isKept])), (q_t_now, .inl (G 0, 26, .inl o37)), (q_t_does, .inl (G 0, 12, .inl t_does)), (q_t_bad, .inl (G 0, 36, .inl t_bad)), (q_t_then, .inl (G 0, 18, .inl o38)), (q_t_ahead, .inl (G 0, 6, .inl z36))] → va_S A s.heap H locs → ∀ ls : Array Slot, lv_has ls 2 [(0, .ref q_t), (1, .int w123)] → W p l e (kR 3 106) s m args below meth c H locs 0 0 Q (F0 m 105 ls []) := by
                intro z152 z153 hy; obtain ⟨rfl, rfl⟩ := sm2 hy
                intro H locs hP hD hS ls hl
                obtain ⟨y154, ey154⟩ : ∃ y : Int32, y = w123 + (-1 : Int32) := ⟨_, rfl⟩
                have hf := nmeU ey154 hf
                refine lv_iinc (v := y154) (lv' := [(1, .int y154), (0, .ref q_t)]) hx hb dX8_pass_105 hl (k := 1) rfl (by rw [ey154]; rfl) (by decide) rfl (fun ls hl => ?_)
                refine lv_goto (tgt := 45) hx hb dX8_pass_108 (by decide) ?_
                exact ih _ _ _ hf H locs hP hD hS ls (lv_sub hl [1, 0] rfl)
              have hf := h168
              refine lv_if_eq (tgt := 105) hx hb dX8_pass_75 (by decide) (fun c156 => ?_) (fun c156 => ?_)
              · have hf := ifp c156 hf
                exact E155 _ _ hf H locs hP hD hS ls (lv_sub hl [0, 1] rfl)
              · have hf := ifn c156 hf
                refine lv_aload_n hx hb dX8_pass_78 rfl (lv_at hl 0 rfl) ?_
                refine lv_iload_n hx hb dX8_pass_79 rfl (lv_at hl 1 rfl) ?_
                obtain ⟨r157, h158, hf⟩ := bd1E hf
                refine kO_virt hx hb hml hown hts hK hn hP (kX8_illsOf l D G q_t q_t_book q_t_now q_t_does q_t_bad q_t_likes q_t_sight q_t_pad q_t_then q_t_ahead q_t_most q_t_worth q_t_damp q_t_next q_t_image q_t_isKept t_there t_sights t_signs w124 w125 t_hours t_reason t_acts o37 w123 h158) cvX8_90 ⟨Nat.le_of_ble_eq_true rfl, Nat.le_of_ble_eq_true rfl⟩ [0, 1] rfl 0 rfl rfl rfl hl.1 rfl (Nat.le_of_ble_eq_true rfl) ⟨Nat.zero_le _, Nat.zero_le _⟩ dX8_pass_80 ?_
                refine lv_aload_n hx hb dX8_pass_83 rfl (lv_at hl 0 rfl) ?_
                refine va_get (D := D) (ci := 8) (v := .ref q_t_ahead) (C := RX8) (T := TX8) (N := 23) hx hb hts inX8 hown hK hP 0 rfl rfl 14 (by decide) (hts _ lfX8_34) (fun _ h9 => h9) rfl dX8_pass_84 ?_
                refine lv_iload_n hx hb dX8_pass_87 rfl (lv_at hl 1 rfl) ?_
                obtain ⟨x159, ex159, ix159, hf⟩ := ldIE hf
                refine k_iald hx hb hK hP 5 0 rfl rfl ix159 ex159 dX8_pass_88 ?_
                obtain ⟨j161, j162, h167, hf⟩ := bd2E hf
                have E165 : ∀ (z163 : Int32) (z164 : Int32), some (z163, z164) = some (j161, j162) → ∀ (H : Heap) (locs : List Loc), va_P D vwCl [(q_t, .inr (8, [.int t_there, .ref q_t_book, .ref q_t_now, .ref q_t_does, .ref q_t_bad, .ref q_t_likes, .int t_sights, .ref q_t_sight, .int t_signs, .ref q_t_pad, .ref q_t_then, .int z163, .int z164, .int t_hours, .ref q_t_ahead, .int t_reason, .int t_acts, .ref q_t_most, .ref q_t_worth, .ref q_t_damp, .ref q_t_next, .ref q_t_image, .ref q_t_isKept])), (q_t_now, .inl (G 0, 26, .inl o37)), (q_t_does, .inl (G 0, 12, .inl t_does)), (q_t_bad, .inl (G 0, 36, .inl t_bad)), (q_t_then, .inl (G 0, 18, .inl o38)), (q_t_ahead, .inl (G 0, 6, .inl z36))] H → va_D A [(q_t, .inr (8, [.int t_there, .ref q_t_book, .ref q_t_now, .ref q_t_does, .ref q_t_bad, .ref q_t_likes, .int t_sights, .ref q_t_sight, .int t_signs, .ref q_t_pad, .ref q_t_then, .int z163, .int z164, .int t_hours, .ref q_t_ahead, .int t_reason, .int t_acts, .ref q_t_most, .ref q_t_worth, .ref q_t_damp, .ref q_t_next, .ref q_t_image, .ref q_t_isKept])), (q_t_now, .inl (G 0, 26, .inl o37)), (q_t_does, .inl (G 0, 12, .inl t_does)), (q_t_bad, .inl (G 0, 36, .inl t_bad)), (q_t_then, .inl (G 0, 18, .inl o38)), (q_t_ahead, .inl (G 0, 6, .inl z36))] → va_S A s.heap H locs → ∀ ls : Array Slot, lv_has ls 2 [(0, .ref q_t), (1, .int w123)] → W p l e (kR 3 106) s m args below meth c H locs 0 0 Q (F0 m 105 ls []) := by
                  intro z163 z164 hy; obtain ⟨rfl, rfl⟩ := sm2 hy
                  intro H locs hP hD hS ls hl
                  exact E155 _ _ hf H locs hP hD hS ls (lv_sub hl [0, 1] rfl)
                have hf := h167
                refine lv_icmp_le (tgt := 105) hx hb dX8_pass_89 (by decide) (fun c166 => ?_) (fun c166 => ?_)
                · have hf := ifp c166 hf
                  exact E165 _ _ hf H locs hP hD hS ls (lv_sub hl [0, 1] rfl)
                · have hf := ifn c166 hf
                  refine lv_aload_n hx hb dX8_pass_92 rfl (lv_at hl 0 rfl) ?_
                  refine lv_aload_n hx hb dX8_pass_93 rfl (lv_at hl 0 rfl) ?_
                  refine va_get (D := D) (ci := 8) (v := .int t_hours) (C := RX8) (T := TX8) (N := 23) hx hb hts inX8 hown hK hP 0 rfl rfl 13 (by decide) (hts _ lfX8_99) (fun _ h9 => h9) rfl dX8_pass_94 ?_
                  refine va_put (D := D) (ci := 8) (v := .int t_hours) (ty := .int) (C := RX8) (T := TX8) (N := 23) hx hb hts inX8 tyX8 tyX8_ok nmX8 hown hK hP hD hS 0 rfl rfl 11 (by decide) (hts _ lfX8_96) (fun _ h9 => h9) rfl (tyX8_ok 11 (by decide)) rfl rfl (Nat.le_of_ble_eq_true rfl) dX8_pass_97 (fun H locs hP hD hS => ?_)
                  have hP : va_P D vwCl [(q_t, .inr (8, [.int t_there, .ref q_t_book, .ref q_t_now, .ref q_t_does, .ref q_t_bad, .ref q_t_likes, .int t_sights, .ref q_t_sight, .int t_signs, .ref q_t_pad, .ref q_t_then, .int t_hours, .int w125, .int t_hours, .ref q_t_ahead, .int t_reason, .int t_acts, .ref q_t_most, .ref q_t_worth, .ref q_t_damp, .ref q_t_next, .ref q_t_image, .ref q_t_isKept])), (q_t_now, .inl (G 0, 26, .inl o37)), (q_t_does, .inl (G 0, 12, .inl t_does)), (q_t_bad, .inl (G 0, 36, .inl t_bad)), (q_t_then, .inl (G 0, 18, .inl o38)), (q_t_ahead, .inl (G 0, 6, .inl z36))] H := hP
                  have hD : va_D A [(q_t, .inr (8, [.int t_there, .ref q_t_book, .ref q_t_now, .ref q_t_does, .ref q_t_bad, .ref q_t_likes, .int t_sights, .ref q_t_sight, .int t_signs, .ref q_t_pad, .ref q_t_then, .int t_hours, .int w125, .int t_hours, .ref q_t_ahead, .int t_reason, .int t_acts, .ref q_t_most, .ref q_t_worth, .ref q_t_damp, .ref q_t_next, .ref q_t_image, .ref q_t_isKept])), (q_t_now, .inl (G 0, 26, .inl o37)), (q_t_does, .inl (G 0, 12, .inl t_does)), (q_t_bad, .inl (G 0, 36, .inl t_bad)), (q_t_then, .inl (G 0, 18, .inl o38)), (q_t_ahead, .inl (G 0, 6, .inl z36))] := hD
                  refine lv_aload_n hx hb dX8_pass_100 rfl (lv_at hl 0 rfl) ?_
                  refine lv_iload_n hx hb dX8_pass_101 rfl (lv_at hl 1 rfl) ?_
                  refine va_put (D := D) (ci := 8) (v := .int w123) (ty := .int) (C := RX8) (T := TX8) (N := 23) hx hb hts inX8 tyX8 tyX8_ok nmX8 hown hK hP hD hS 0 rfl rfl 12 (by decide) (hts _ lfX8_102) (fun _ h9 => h9) rfl (tyX8_ok 12 (by decide)) rfl rfl (Nat.le_of_ble_eq_true rfl) dX8_pass_102 (fun H locs hP hD hS => ?_)
                  have hP : va_P D vwCl [(q_t, .inr (8, [.int t_there, .ref q_t_book, .ref q_t_now, .ref q_t_does, .ref q_t_bad, .ref q_t_likes, .int t_sights, .ref q_t_sight, .int t_signs, .ref q_t_pad, .ref q_t_then, .int t_hours, .int w123, .int t_hours, .ref q_t_ahead, .int t_reason, .int t_acts, .ref q_t_most, .ref q_t_worth, .ref q_t_damp, .ref q_t_next, .ref q_t_image, .ref q_t_isKept])), (q_t_now, .inl (G 0, 26, .inl o37)), (q_t_does, .inl (G 0, 12, .inl t_does)), (q_t_bad, .inl (G 0, 36, .inl t_bad)), (q_t_then, .inl (G 0, 18, .inl o38)), (q_t_ahead, .inl (G 0, 6, .inl z36))] H := hP
                  have hD : va_D A [(q_t, .inr (8, [.int t_there, .ref q_t_book, .ref q_t_now, .ref q_t_does, .ref q_t_bad, .ref q_t_likes, .int t_sights, .ref q_t_sight, .int t_signs, .ref q_t_pad, .ref q_t_then, .int t_hours, .int w123, .int t_hours, .ref q_t_ahead, .int t_reason, .int t_acts, .ref q_t_most, .ref q_t_worth, .ref q_t_damp, .ref q_t_next, .ref q_t_image, .ref q_t_isKept])), (q_t_now, .inl (G 0, 26, .inl o37)), (q_t_does, .inl (G 0, 12, .inl t_does)), (q_t_bad, .inl (G 0, 36, .inl t_bad)), (q_t_then, .inl (G 0, 18, .inl o38)), (q_t_ahead, .inl (G 0, 6, .inl z36))] := hD
                  exact E165 _ _ hf H locs hP hD hS ls (lv_sub hl [0, 1] rfl)
            · have hf := ifn c135 hf
              refine lv_aload_n hx hb dX8_pass_56 rfl (lv_at hl 0 rfl) ?_
              refine va_get (D := D) (ci := 8) (v := .int w124) (C := RX8) (T := TX8) (N := 23) hx hb hts inX8 hown hK hP 0 rfl rfl 11 (by decide) (hts _ lfX8_96) (fun _ h9 => h9) rfl dX8_pass_57 ?_
              refine lv_aload_n hx hb dX8_pass_60 rfl (lv_at hl 0 rfl) ?_
              refine va_get (D := D) (ci := 8) (v := .int t_hours) (C := RX8) (T := TX8) (N := 23) hx hb hts inX8 hown hK hP 0 rfl rfl 13 (by decide) (hts _ lfX8_99) (fun _ h9 => h9) rfl dX8_pass_61 ?_
              refine lv_icmp_ne (tgt := 111) hx hb dX8_pass_64 (by decide) (fun c169 => ?_) (fun c169 => ?_)
              · have hf := ifn c169 hf
                exact E128 _ _ hf H locs hP hD hS ls (lv_sub hl [0] rfl)
              · have hf := ifp c169 hf
                refine lv_aload_n hx hb dX8_pass_67 rfl (lv_at hl 0 rfl) ?_
                refine va_get (D := D) (ci := 8) (v := .int t_there) (C := RX8) (T := TX8) (N := 23) hx hb hts inX8 hown hK hP 0 rfl rfl 0 (by decide) (hts _ lfX8_57) (fun _ h9 => h9) rfl dX8_pass_68 ?_
                refine lv_iload_n hx hb dX8_pass_71 rfl (lv_at hl 1 rfl) ?_
                obtain ⟨r170, h171, hf⟩ := bd1E hf
                refine kO_stat hx hb hml hown hts hK hn hP (kX8_has l D G t_there w123 h171) csX8_65 ⟨Nat.le_of_ble_eq_true rfl, Nat.le_of_ble_eq_true rfl⟩ [] rfl rfl hl.1 rfl (Nat.le_of_ble_eq_true rfl) ⟨Nat.zero_le _, Nat.zero_le _⟩ dX8_pass_72 ?_
                obtain ⟨j184, j185, h202, hf⟩ := bd2E hf
                have E189 : ∀ (z186 : Int32) (z187 : Int32), some (z186, z187) = some (j184, j185) → ∀ (H : Heap) (locs : List Loc), va_P D vwCl [(q_t, .inr (8, [.int t_there, .ref q_t_book, .ref q_t_now, .ref q_t_does, .ref q_t_bad, .ref q_t_likes, .int t_sights, .ref q_t_sight, .int t_signs, .ref q_t_pad, .ref q_t_then, .int z186, .int z187, .int t_hours, .ref q_t_ahead, .int t_reason, .int t_acts, .ref q_t_most, .ref q_t_worth, .ref q_t_damp, .ref q_t_next, .ref q_t_image, .ref q_t_isKept])), (q_t_now, .inl (G 0, 26, .inl o37)), (q_t_does, .inl (G 0, 12, .inl t_does)), (q_t_bad, .inl (G 0, 36, .inl t_bad)), (q_t_then, .inl (G 0, 18, .inl o38)), (q_t_ahead, .inl (G 0, 6, .inl z36))] H → va_D A [(q_t, .inr (8, [.int t_there, .ref q_t_book, .ref q_t_now, .ref q_t_does, .ref q_t_bad, .ref q_t_likes, .int t_sights, .ref q_t_sight, .int t_signs, .ref q_t_pad, .ref q_t_then, .int z186, .int z187, .int t_hours, .ref q_t_ahead, .int t_reason, .int t_acts, .ref q_t_most, .ref q_t_worth, .ref q_t_damp, .ref q_t_next, .ref q_t_image, .ref q_t_isKept])), (q_t_now, .inl (G 0, 26, .inl o37)), (q_t_does, .inl (G 0, 12, .inl t_does)), (q_t_bad, .inl (G 0, 36, .inl t_bad)), (q_t_then, .inl (G 0, 18, .inl o38)), (q_t_ahead, .inl (G 0, 6, .inl z36))] → va_S A s.heap H locs → ∀ ls : Array Slot, lv_has ls 2 [(0, .ref q_t), (1, .int w123)] → W p l e (kR 3 106) s m args below meth c H locs 0 0 Q (F0 m 105 ls []) := by
                  intro z186 z187 hy; obtain ⟨rfl, rfl⟩ := sm2 hy
                  intro H locs hP hD hS ls hl
                  obtain ⟨y188, ey188⟩ : ∃ y : Int32, y = w123 + (-1 : Int32) := ⟨_, rfl⟩
                  have hf := nmeU ey188 hf
                  refine lv_iinc (v := y188) (lv' := [(1, .int y188), (0, .ref q_t)]) hx hb dX8_pass_105 hl (k := 1) rfl (by rw [ey188]; rfl) (by decide) rfl (fun ls hl => ?_)
                  refine lv_goto (tgt := 45) hx hb dX8_pass_108 (by decide) ?_
                  exact ih _ _ _ hf H locs hP hD hS ls (lv_sub hl [1, 0] rfl)
                have hf := h202
                refine lv_if_eq (tgt := 105) hx hb dX8_pass_75 (by decide) (fun c190 => ?_) (fun c190 => ?_)
                · have hf := ifp c190 hf
                  exact E189 _ _ hf H locs hP hD hS ls (lv_sub hl [0, 1] rfl)
                · have hf := ifn c190 hf
                  refine lv_aload_n hx hb dX8_pass_78 rfl (lv_at hl 0 rfl) ?_
                  refine lv_iload_n hx hb dX8_pass_79 rfl (lv_at hl 1 rfl) ?_
                  obtain ⟨r191, h192, hf⟩ := bd1E hf
                  refine kO_virt hx hb hml hown hts hK hn hP (kX8_illsOf l D G q_t q_t_book q_t_now q_t_does q_t_bad q_t_likes q_t_sight q_t_pad q_t_then q_t_ahead q_t_most q_t_worth q_t_damp q_t_next q_t_image q_t_isKept t_there t_sights t_signs w124 w125 t_hours t_reason t_acts o37 w123 h192) cvX8_90 ⟨Nat.le_of_ble_eq_true rfl, Nat.le_of_ble_eq_true rfl⟩ [0, 1] rfl 0 rfl rfl rfl hl.1 rfl (Nat.le_of_ble_eq_true rfl) ⟨Nat.zero_le _, Nat.zero_le _⟩ dX8_pass_80 ?_
                  refine lv_aload_n hx hb dX8_pass_83 rfl (lv_at hl 0 rfl) ?_
                  refine va_get (D := D) (ci := 8) (v := .ref q_t_ahead) (C := RX8) (T := TX8) (N := 23) hx hb hts inX8 hown hK hP 0 rfl rfl 14 (by decide) (hts _ lfX8_34) (fun _ h9 => h9) rfl dX8_pass_84 ?_
                  refine lv_iload_n hx hb dX8_pass_87 rfl (lv_at hl 1 rfl) ?_
                  obtain ⟨x193, ex193, ix193, hf⟩ := ldIE hf
                  refine k_iald hx hb hK hP 5 0 rfl rfl ix193 ex193 dX8_pass_88 ?_
                  obtain ⟨j195, j196, h201, hf⟩ := bd2E hf
                  have E199 : ∀ (z197 : Int32) (z198 : Int32), some (z197, z198) = some (j195, j196) → ∀ (H : Heap) (locs : List Loc), va_P D vwCl [(q_t, .inr (8, [.int t_there, .ref q_t_book, .ref q_t_now, .ref q_t_does, .ref q_t_bad, .ref q_t_likes, .int t_sights, .ref q_t_sight, .int t_signs, .ref q_t_pad, .ref q_t_then, .int z197, .int z198, .int t_hours, .ref q_t_ahead, .int t_reason, .int t_acts, .ref q_t_most, .ref q_t_worth, .ref q_t_damp, .ref q_t_next, .ref q_t_image, .ref q_t_isKept])), (q_t_now, .inl (G 0, 26, .inl o37)), (q_t_does, .inl (G 0, 12, .inl t_does)), (q_t_bad, .inl (G 0, 36, .inl t_bad)), (q_t_then, .inl (G 0, 18, .inl o38)), (q_t_ahead, .inl (G 0, 6, .inl z36))] H → va_D A [(q_t, .inr (8, [.int t_there, .ref q_t_book, .ref q_t_now, .ref q_t_does, .ref q_t_bad, .ref q_t_likes, .int t_sights, .ref q_t_sight, .int t_signs, .ref q_t_pad, .ref q_t_then, .int z197, .int z198, .int t_hours, .ref q_t_ahead, .int t_reason, .int t_acts, .ref q_t_most, .ref q_t_worth, .ref q_t_damp, .ref q_t_next, .ref q_t_image, .ref q_t_isKept])), (q_t_now, .inl (G 0, 26, .inl o37)), (q_t_does, .inl (G 0, 12, .inl t_does)), (q_t_bad, .inl (G 0, 36, .inl t_bad)), (q_t_then, .inl (G 0, 18, .inl o38)), (q_t_ahead, .inl (G 0, 6, .inl z36))] → va_S A s.heap H locs → ∀ ls : Array Slot, lv_has ls 2 [(0, .ref q_t), (1, .int w123)] → W p l e (kR 3 106) s m args below meth c H locs 0 0 Q (F0 m 105 ls []) := by
                    intro z197 z198 hy; obtain ⟨rfl, rfl⟩ := sm2 hy
                    intro H locs hP hD hS ls hl
                    exact E189 _ _ hf H locs hP hD hS ls (lv_sub hl [0, 1] rfl)
                  have hf := h201
                  refine lv_icmp_le (tgt := 105) hx hb dX8_pass_89 (by decide) (fun c200 => ?_) (fun c200 => ?_)
                  · have hf := ifp c200 hf
                    exact E199 _ _ hf H locs hP hD hS ls (lv_sub hl [0, 1] rfl)
                  · have hf := ifn c200 hf
                    refine lv_aload_n hx hb dX8_pass_92 rfl (lv_at hl 0 rfl) ?_
                    refine lv_aload_n hx hb dX8_pass_93 rfl (lv_at hl 0 rfl) ?_
                    refine va_get (D := D) (ci := 8) (v := .int t_hours) (C := RX8) (T := TX8) (N := 23) hx hb hts inX8 hown hK hP 0 rfl rfl 13 (by decide) (hts _ lfX8_99) (fun _ h9 => h9) rfl dX8_pass_94 ?_
                    refine va_put (D := D) (ci := 8) (v := .int t_hours) (ty := .int) (C := RX8) (T := TX8) (N := 23) hx hb hts inX8 tyX8 tyX8_ok nmX8 hown hK hP hD hS 0 rfl rfl 11 (by decide) (hts _ lfX8_96) (fun _ h9 => h9) rfl (tyX8_ok 11 (by decide)) rfl rfl (Nat.le_of_ble_eq_true rfl) dX8_pass_97 (fun H locs hP hD hS => ?_)
                    have hP : va_P D vwCl [(q_t, .inr (8, [.int t_there, .ref q_t_book, .ref q_t_now, .ref q_t_does, .ref q_t_bad, .ref q_t_likes, .int t_sights, .ref q_t_sight, .int t_signs, .ref q_t_pad, .ref q_t_then, .int t_hours, .int w125, .int t_hours, .ref q_t_ahead, .int t_reason, .int t_acts, .ref q_t_most, .ref q_t_worth, .ref q_t_damp, .ref q_t_next, .ref q_t_image, .ref q_t_isKept])), (q_t_now, .inl (G 0, 26, .inl o37)), (q_t_does, .inl (G 0, 12, .inl t_does)), (q_t_bad, .inl (G 0, 36, .inl t_bad)), (q_t_then, .inl (G 0, 18, .inl o38)), (q_t_ahead, .inl (G 0, 6, .inl z36))] H := hP
                    have hD : va_D A [(q_t, .inr (8, [.int t_there, .ref q_t_book, .ref q_t_now, .ref q_t_does, .ref q_t_bad, .ref q_t_likes, .int t_sights, .ref q_t_sight, .int t_signs, .ref q_t_pad, .ref q_t_then, .int t_hours, .int w125, .int t_hours, .ref q_t_ahead, .int t_reason, .int t_acts, .ref q_t_most, .ref q_t_worth, .ref q_t_damp, .ref q_t_next, .ref q_t_image, .ref q_t_isKept])), (q_t_now, .inl (G 0, 26, .inl o37)), (q_t_does, .inl (G 0, 12, .inl t_does)), (q_t_bad, .inl (G 0, 36, .inl t_bad)), (q_t_then, .inl (G 0, 18, .inl o38)), (q_t_ahead, .inl (G 0, 6, .inl z36))] := hD
                    refine lv_aload_n hx hb dX8_pass_100 rfl (lv_at hl 0 rfl) ?_
                    refine lv_iload_n hx hb dX8_pass_101 rfl (lv_at hl 1 rfl) ?_
                    refine va_put (D := D) (ci := 8) (v := .int w123) (ty := .int) (C := RX8) (T := TX8) (N := 23) hx hb hts inX8 tyX8 tyX8_ok nmX8 hown hK hP hD hS 0 rfl rfl 12 (by decide) (hts _ lfX8_102) (fun _ h9 => h9) rfl (tyX8_ok 12 (by decide)) rfl rfl (Nat.le_of_ble_eq_true rfl) dX8_pass_102 (fun H locs hP hD hS => ?_)
                    have hP : va_P D vwCl [(q_t, .inr (8, [.int t_there, .ref q_t_book, .ref q_t_now, .ref q_t_does, .ref q_t_bad, .ref q_t_likes, .int t_sights, .ref q_t_sight, .int t_signs, .ref q_t_pad, .ref q_t_then, .int t_hours, .int w123, .int t_hours, .ref q_t_ahead, .int t_reason, .int t_acts, .ref q_t_most, .ref q_t_worth, .ref q_t_damp, .ref q_t_next, .ref q_t_image, .ref q_t_isKept])), (q_t_now, .inl (G 0, 26, .inl o37)), (q_t_does, .inl (G 0, 12, .inl t_does)), (q_t_bad, .inl (G 0, 36, .inl t_bad)), (q_t_then, .inl (G 0, 18, .inl o38)), (q_t_ahead, .inl (G 0, 6, .inl z36))] H := hP
                    have hD : va_D A [(q_t, .inr (8, [.int t_there, .ref q_t_book, .ref q_t_now, .ref q_t_does, .ref q_t_bad, .ref q_t_likes, .int t_sights, .ref q_t_sight, .int t_signs, .ref q_t_pad, .ref q_t_then, .int t_hours, .int w123, .int t_hours, .ref q_t_ahead, .int t_reason, .int t_acts, .ref q_t_most, .ref q_t_worth, .ref q_t_damp, .ref q_t_next, .ref q_t_image, .ref q_t_isKept])), (q_t_now, .inl (G 0, 26, .inl o37)), (q_t_does, .inl (G 0, 12, .inl t_does)), (q_t_bad, .inl (G 0, 36, .inl t_bad)), (q_t_then, .inl (G 0, 18, .inl o38)), (q_t_ahead, .inl (G 0, 6, .inl z36))] := hD
                    exact E199 _ _ hf H locs hP hD hS ls (lv_sub hl [0, 1] rfl)
      exact L129 fu (5 : Int32) t_worseAt t_worseWho h131 H locs hP hD hS ls (lv_sub hl [1, 0] rfl)
    have L26 : ∀ (k : Nat) (w22 : Int32) (w23 : Nat → Int32), fX8_pass_16 t_now k w22 w23 = some u24 → ∀ (H : Heap) (locs : List Loc), va_P D vwCl [(q_t, .inr (8, [.int t_there, .ref q_t_book, .ref q_t_now, .ref q_t_does, .ref q_t_bad, .ref q_t_likes, .int t_sights, .ref q_t_sight, .int t_signs, .ref q_t_pad, .ref q_t_then, .int t_worseAt, .int t_worseWho, .int t_hours, .ref q_t_ahead, .int t_reason, .int t_acts, .ref q_t_most, .ref q_t_worth, .ref q_t_damp, .ref q_t_next, .ref q_t_image, .ref q_t_isKept])), (q_t_now, .inl (G 0, 26, .inl t_now)), (q_t_does, .inl (G 0, 12, .inl t_does)), (q_t_bad, .inl (G 0, 36, .inl t_bad)), (q_t_then, .inl (G 0, 18, .inl t_then)), (q_t_ahead, .inl (G 0, 6, .inl w23))] H → va_D A [(q_t, .inr (8, [.int t_there, .ref q_t_book, .ref q_t_now, .ref q_t_does, .ref q_t_bad, .ref q_t_likes, .int t_sights, .ref q_t_sight, .int t_signs, .ref q_t_pad, .ref q_t_then, .int t_worseAt, .int t_worseWho, .int t_hours, .ref q_t_ahead, .int t_reason, .int t_acts, .ref q_t_most, .ref q_t_worth, .ref q_t_damp, .ref q_t_next, .ref q_t_image, .ref q_t_isKept])), (q_t_now, .inl (G 0, 26, .inl t_now)), (q_t_does, .inl (G 0, 12, .inl t_does)), (q_t_bad, .inl (G 0, 36, .inl t_bad)), (q_t_then, .inl (G 0, 18, .inl t_then)), (q_t_ahead, .inl (G 0, 6, .inl w23))] → va_S A s.heap H locs → ∀ ls : Array Slot, lv_has ls 2 [(0, .ref q_t), (1, .int w22)] → W p l e (kR 3 106) s m args below meth c H locs 0 0 Q (F0 m 16 ls []) := by
      intro k; induction k with
      | zero => intro w22 w23 hf; exact nosome hf
      | succ k ih =>
        intro w22 w23 hf; rw [fX8_pass_16] at hf
        intro H locs hP hD hS ls hl
        refine lv_iload_n hx hb dX8_pass_16 rfl (lv_at hl 1 rfl) ?_
        refine lv_bipush (v := (6 : Int32)) hx hb dX8_pass_17 (by decide) ?_
        refine lv_icmp_ge (tgt := 39) hx hb dX8_pass_19 (by decide) (fun c31 => ?_) (fun c31 => ?_)
        · have hf := ifp c31 hf
          exact E25 _ hf H locs hP hD hS ls (lv_sub hl [0] rfl)
        · have hf := ifn c31 hf
          refine lv_aload_n hx hb dX8_pass_22 rfl (lv_at hl 0 rfl) ?_
          refine va_get (D := D) (ci := 8) (v := .ref q_t_ahead) (C := RX8) (T := TX8) (N := 23) hx hb hts inX8 hown hK hP 0 rfl rfl 14 (by decide) (hts _ lfX8_34) (fun _ h9 => h9) rfl dX8_pass_23 ?_
          refine lv_iload_n hx hb dX8_pass_26 rfl (lv_at hl 1 rfl) ?_
          refine lv_aload_n hx hb dX8_pass_27 rfl (lv_at hl 0 rfl) ?_
          refine lv_iload_n hx hb dX8_pass_28 rfl (lv_at hl 1 rfl) ?_
          obtain ⟨r32, h33, hf⟩ := bd1E hf
          refine kO_virt hx hb hml hown hts hK hn hP (kX8_illsOf l D G q_t q_t_book q_t_now q_t_does q_t_bad q_t_likes q_t_sight q_t_pad q_t_then q_t_ahead q_t_most q_t_worth q_t_damp q_t_next q_t_image q_t_isKept t_there t_sights t_signs t_worseAt t_worseWho t_hours t_reason t_acts t_now w22 h33) cvX8_90 ⟨Nat.le_of_ble_eq_true rfl, Nat.le_of_ble_eq_true rfl⟩ [0, 1] rfl 0 rfl rfl rfl hl.1 rfl (Nat.le_of_ble_eq_true rfl) ⟨Nat.zero_le _, Nat.zero_le _⟩ dX8_pass_29 ?_
          obtain ⟨g34, eg34, ig34, hf⟩ := stIE hf
          refine k_iast hx hb hK hP hD hS 5 0 rfl rfl ig34 eg34 dX8_pass_32 (fun H locs hP hD hS => ?_)
          have hP : va_P D vwCl [(q_t, .inr (8, [.int t_there, .ref q_t_book, .ref q_t_now, .ref q_t_does, .ref q_t_bad, .ref q_t_likes, .int t_sights, .ref q_t_sight, .int t_signs, .ref q_t_pad, .ref q_t_then, .int t_worseAt, .int t_worseWho, .int t_hours, .ref q_t_ahead, .int t_reason, .int t_acts, .ref q_t_most, .ref q_t_worth, .ref q_t_damp, .ref q_t_next, .ref q_t_image, .ref q_t_isKept])), (q_t_now, .inl (G 0, 26, .inl t_now)), (q_t_does, .inl (G 0, 12, .inl t_does)), (q_t_bad, .inl (G 0, 36, .inl t_bad)), (q_t_then, .inl (G 0, 18, .inl t_then)), (q_t_ahead, .inl (G 0, 6, .inl g34))] H := hP
          have hD : va_D A [(q_t, .inr (8, [.int t_there, .ref q_t_book, .ref q_t_now, .ref q_t_does, .ref q_t_bad, .ref q_t_likes, .int t_sights, .ref q_t_sight, .int t_signs, .ref q_t_pad, .ref q_t_then, .int t_worseAt, .int t_worseWho, .int t_hours, .ref q_t_ahead, .int t_reason, .int t_acts, .ref q_t_most, .ref q_t_worth, .ref q_t_damp, .ref q_t_next, .ref q_t_image, .ref q_t_isKept])), (q_t_now, .inl (G 0, 26, .inl t_now)), (q_t_does, .inl (G 0, 12, .inl t_does)), (q_t_bad, .inl (G 0, 36, .inl t_bad)), (q_t_then, .inl (G 0, 18, .inl t_then)), (q_t_ahead, .inl (G 0, 6, .inl g34))] := hD
          obtain ⟨y35, ey35⟩ : ∃ y : Int32, y = w22 + (1 : Int32) := ⟨_, rfl⟩
          have hf := nmeU ey35 hf
          refine lv_iinc (v := y35) (lv' := [(1, .int y35), (0, .ref q_t)]) hx hb dX8_pass_33 hl (k := 1) rfl (by rw [ey35]; rfl) (by decide) rfl (fun ls hl => ?_)
          refine lv_goto (tgt := 16) hx hb dX8_pass_36 (by decide) ?_
          exact ih _ _ hf H locs hP hD hS ls (lv_sub hl [1, 0] rfl)
    exact L26 fu (0 : Int32) t_ahead h28 H locs hP hD hS ls (lv_sub hl [1, 0] rfl)
  · have hf := ifp c2 hf
    refine lv_iconst (v := (4 : Int32)) hx hb dX8_pass_12 (by decide) ?_
    exact RT _ _ _ _ _ _ _ hf _ _ _ H locs dX8_pass_13 (rkI _) hP hD hS
set_option maxHeartbeats 4000000 in
set_option maxRecDepth 100000 in
theorem kX8_sit (l : Launch) (D : va_G) (G : Nat → ClassId) (q_t q_t_book q_t_now q_t_does q_t_bad q_t_likes q_t_sight q_t_pad q_t_then q_t_ahead q_t_most q_t_worth q_t_damp q_t_next q_t_image q_t_isKept : Nat) (t_there : Int32) (t_sights : Int32) (t_signs : Int32) (t_worseAt : Int32) (t_worseWho : Int32) (t_hours : Int32) (t_reason : Int32) (t_acts : Int32) (t_now : Nat → Int32) (v1 : Int32) {r : Int32} {o_t_now : Nat → Int32} (hf : fX8_sit t_there t_now v1 = some (r, o_t_now)) : rW l D G yX8_sit cX8_sit 2 (some .int) 3 103 [.ref q_t, .int v1] [(q_t, .inr (8, [.int t_there, .ref q_t_book, .ref q_t_now, .ref q_t_does, .ref q_t_bad, .ref q_t_likes, .int t_sights, .ref q_t_sight, .int t_signs, .ref q_t_pad, .ref q_t_then, .int t_worseAt, .int t_worseWho, .int t_hours, .ref q_t_ahead, .int t_reason, .int t_acts, .ref q_t_most, .ref q_t_worth, .ref q_t_damp, .ref q_t_next, .ref q_t_image, .ref q_t_isKept])), (q_t_now, .inl (G 0, 26, .inl t_now))] [(q_t, .inr (8, [.int t_there, .ref q_t_book, .ref q_t_now, .ref q_t_does, .ref q_t_bad, .ref q_t_likes, .int t_sights, .ref q_t_sight, .int t_signs, .ref q_t_pad, .ref q_t_then, .int t_worseAt, .int t_worseWho, .int t_hours, .ref q_t_ahead, .int t_reason, .int t_acts, .ref q_t_most, .ref q_t_worth, .ref q_t_damp, .ref q_t_next, .ref q_t_image, .ref q_t_isKept])), (q_t_now, .inl (G 0, 26, .inl o_t_now))] (some (.int r)) := by
  refine rW_of (by decide) (Nat.le_of_ble_eq_true rfl) ?_
  intro p e s m args below meth c Q A hx hb hml hown hts hK hn hA RET H locs hP hD hS ls hl
  have RT : ∀ (a0_ : Int32) (a1_ : Nat → Int32), some (a0_, a1_) = some (r, o_t_now) → ∀ (pc : Nat) (ls : Array Slot) (ins : Instr) (H : Heap) (locs : List Loc), decode cX8_sit pc = .ok (ins, 1) → rk (some .int) (some (.int a0_)) ins → va_P D vwCl [(q_t, .inr (8, [.int t_there, .ref q_t_book, .ref q_t_now, .ref q_t_does, .ref q_t_bad, .ref q_t_likes, .int t_sights, .ref q_t_sight, .int t_signs, .ref q_t_pad, .ref q_t_then, .int t_worseAt, .int t_worseWho, .int t_hours, .ref q_t_ahead, .int t_reason, .int t_acts, .ref q_t_most, .ref q_t_worth, .ref q_t_damp, .ref q_t_next, .ref q_t_image, .ref q_t_isKept])), (q_t_now, .inl (G 0, 26, .inl a1_))] H → va_D A [(q_t, .inr (8, [.int t_there, .ref q_t_book, .ref q_t_now, .ref q_t_does, .ref q_t_bad, .ref q_t_likes, .int t_sights, .ref q_t_sight, .int t_signs, .ref q_t_pad, .ref q_t_then, .int t_worseAt, .int t_worseWho, .int t_hours, .ref q_t_ahead, .int t_reason, .int t_acts, .ref q_t_most, .ref q_t_worth, .ref q_t_damp, .ref q_t_next, .ref q_t_image, .ref q_t_isKept])), (q_t_now, .inl (G 0, 26, .inl a1_))] → va_S A s.heap H locs → W p l e (kR 3 103) s m args below meth c H locs 0 0 Q (F0 m pc ls [.int a0_]) := by
    intro a0_ a1_ hy; obtain ⟨rfl, rfl⟩ := sm2 hy
    exact RET
  have hown : s.vm.findClass RX8 = some m.cls := hown
  have hl : lv_has ls 2 [(0, .ref q_t), (1, .int v1)] := hl
  clear RET
  rw [fX8_sit] at hf
  refine lv_aload_n hx hb dX8_sit_0 rfl (lv_at hl 0 rfl) ?_
  refine lv_iload_n hx hb dX8_sit_1 rfl (lv_at hl 1 rfl) ?_
  obtain ⟨r1, h2, hf⟩ := bd1E hf
  refine kO_virt hx hb hml hown hts hK hn hP (kX8_isThere l D G q_t q_t_book q_t_now q_t_does q_t_bad q_t_likes q_t_sight q_t_pad q_t_then q_t_ahead q_t_most q_t_worth q_t_damp q_t_next q_t_image q_t_isKept t_there t_sights t_signs t_worseAt t_worseWho t_hours t_reason t_acts v1 h2) cvX8_73 ⟨Nat.le_of_ble_eq_true rfl, Nat.le_of_ble_eq_true rfl⟩ [0] rfl 0 rfl rfl rfl hl.1 rfl (Nat.le_of_ble_eq_true rfl) ⟨Nat.zero_le _, Nat.zero_le _⟩ dX8_sit_2 ?_
  refine lv_if_ne (tgt := 10) hx hb dX8_sit_5 (by decide) (fun c3 => ?_) (fun c3 => ?_)
  · have hf := ifn c3 hf
    refine lv_aload_n hx hb dX8_sit_10 rfl (lv_at hl 0 rfl) ?_
    refine va_get (D := D) (ci := 8) (v := .ref q_t_now) (C := RX8) (T := TX8) (N := 23) hx hb hts inX8 hown hK hP 0 rfl rfl 2 (by decide) (hts _ lfX8_13) (fun _ h9 => h9) rfl dX8_sit_11 ?_
    refine lv_bipush (v := (24 : Int32)) hx hb dX8_sit_14 (by decide) ?_
    obtain ⟨x4, ex4, ix4, hf⟩ := ldIE hf
    refine k_iald hx hb hK hP 1 0 rfl rfl ix4 ex4 dX8_sit_16 ?_
    refine lv_iload_n hx hb dX8_sit_17 rfl (lv_at hl 1 rfl) ?_
    obtain ⟨r5, h6, hf⟩ := bd1E hf
    refine kO_stat hx hb hml hown hts hK hn hP (kX8_has l D G x4 v1 h6) csX8_65 ⟨Nat.le_of_ble_eq_true rfl, Nat.le_of_ble_eq_true rfl⟩ [] rfl rfl hl.1 rfl (Nat.le_of_ble_eq_true rfl) ⟨Nat.zero_le _, Nat.zero_le _⟩ dX8_sit_18 ?_
    refine lv_if_eq (tgt := 26) hx hb dX8_sit_21 (by decide) (fun c7 => ?_) (fun c7 => ?_)
    · have hf := ifp c7 hf
      refine lv_aload_n hx hb dX8_sit_26 rfl (lv_at hl 0 rfl) ?_
      refine va_get (D := D) (ci := 8) (v := .ref q_t_now) (C := RX8) (T := TX8) (N := 23) hx hb hts inX8 hown hK hP 0 rfl rfl 2 (by decide) (hts _ lfX8_13) (fun _ h9 => h9) rfl dX8_sit_27 ?_
      refine lv_bipush (v := (24 : Int32)) hx hb dX8_sit_30 (by decide) ?_
      refine lv_dup2_11 hx hb dX8_sit_32 rfl rfl ?_
      obtain ⟨x8, ex8, ix8, hf⟩ := ldIE hf
      refine k_iald hx hb hK hP 1 0 rfl rfl ix8 ex8 dX8_sit_33 ?_
      refine lv_iconst (v := (1 : Int32)) hx hb dX8_sit_34 (by decide) ?_
      refine lv_iload_n hx hb dX8_sit_35 rfl (lv_at hl 1 rfl) ?_
      refine lv_ishl hx hb dX8_sit_36 ?_
      refine lv_ior hx hb dX8_sit_37 ?_
      obtain ⟨g9, eg9, ig9, hf⟩ := stIE hf
      refine k_iast hx hb hK hP hD hS 1 0 rfl rfl ig9 eg9 dX8_sit_38 (fun H locs hP hD hS => ?_)
      have hP : va_P D vwCl [(q_t, .inr (8, [.int t_there, .ref q_t_book, .ref q_t_now, .ref q_t_does, .ref q_t_bad, .ref q_t_likes, .int t_sights, .ref q_t_sight, .int t_signs, .ref q_t_pad, .ref q_t_then, .int t_worseAt, .int t_worseWho, .int t_hours, .ref q_t_ahead, .int t_reason, .int t_acts, .ref q_t_most, .ref q_t_worth, .ref q_t_damp, .ref q_t_next, .ref q_t_image, .ref q_t_isKept])), (q_t_now, .inl (G 0, 26, .inl g9))] H := hP
      have hD : va_D A [(q_t, .inr (8, [.int t_there, .ref q_t_book, .ref q_t_now, .ref q_t_does, .ref q_t_bad, .ref q_t_likes, .int t_sights, .ref q_t_sight, .int t_signs, .ref q_t_pad, .ref q_t_then, .int t_worseAt, .int t_worseWho, .int t_hours, .ref q_t_ahead, .int t_reason, .int t_acts, .ref q_t_most, .ref q_t_worth, .ref q_t_damp, .ref q_t_next, .ref q_t_image, .ref q_t_isKept])), (q_t_now, .inl (G 0, 26, .inl g9))] := hD
      refine lv_iconst (v := (0 : Int32)) hx hb dX8_sit_39 (by decide) ?_
      exact RT _ _ hf _ _ _ H locs dX8_sit_40 (rkI _) hP hD hS
    · have hf := ifn c7 hf
      refine lv_iconst (v := (3 : Int32)) hx hb dX8_sit_24 (by decide) ?_
      exact RT _ _ hf _ _ _ H locs dX8_sit_25 (rkI _) hP hD hS
  · have hf := ifp c3 hf
    refine lv_iconst (v := (1 : Int32)) hx hb dX8_sit_8 (by decide) ?_
    exact RT _ _ hf _ _ _ H locs dX8_sit_9 (rkI _) hP hD hS
