set_option maxHeartbeats 4000000 in
set_option maxRecDepth 100000 in
theorem kX8_laySeats (l : Launch) (D : va_G) (G : Nat → ClassId) (fu : Nat) (q_t q_t_book q_t_now q_t_does q_t_bad q_t_likes q_t_sight q_t_pad q_t_then q_t_ahead q_t_most q_t_worth q_t_damp q_t_next q_t_image q_t_isKept : Nat) (t_there : Int32) (t_sights : Int32) (t_signs : Int32) (t_worseAt : Int32) (t_worseWho : Int32) (t_hours : Int32) (t_reason : Int32) (t_acts : Int32) (t_likes : Nat → Int32) (t_most : Nat → Int32) {o_t_most : Nat → Int32} (hf : fX8_laySeats fu t_there t_likes t_most = some o_t_most) : rW l D G yX8_laySeats cX8_laySeats 6 none 2 81 [.ref q_t] [(q_t, .inr (8, [.int t_there, .ref q_t_book, .ref q_t_now, .ref q_t_does, .ref q_t_bad, .ref q_t_likes, .int t_sights, .ref q_t_sight, .int t_signs, .ref q_t_pad, .ref q_t_then, .int t_worseAt, .int t_worseWho, .int t_hours, .ref q_t_ahead, .int t_reason, .int t_acts, .ref q_t_most, .ref q_t_worth, .ref q_t_damp, .ref q_t_next, .ref q_t_image, .ref q_t_isKept])), (q_t_likes, .inl (G 0, 6, .inl t_likes)), (q_t_most, .inl (G 0, 448, .inl t_most))] [(q_t, .inr (8, [.int t_there, .ref q_t_book, .ref q_t_now, .ref q_t_does, .ref q_t_bad, .ref q_t_likes, .int t_sights, .ref q_t_sight, .int t_signs, .ref q_t_pad, .ref q_t_then, .int t_worseAt, .int t_worseWho, .int t_hours, .ref q_t_ahead, .int t_reason, .int t_acts, .ref q_t_most, .ref q_t_worth, .ref q_t_damp, .ref q_t_next, .ref q_t_image, .ref q_t_isKept])), (q_t_likes, .inl (G 0, 6, .inl t_likes)), (q_t_most, .inl (G 0, 448, .inl o_t_most))] none := by
  refine rW_of (by decide) (Nat.le_of_ble_eq_true rfl) ?_
  intro p e s m args below meth c Q A hx hb hml hown hts hK hn hA RET H locs hP hD hS ls hl
  have RT : ∀ (a0_ : Nat → Int32), some a0_ = some o_t_most → ∀ (pc : Nat) (ls : Array Slot) (ins : Instr) (H : Heap) (locs : List Loc), decode cX8_laySeats pc = .ok (ins, 1) → rk none none ins → va_P D vwCl [(q_t, .inr (8, [.int t_there, .ref q_t_book, .ref q_t_now, .ref q_t_does, .ref q_t_bad, .ref q_t_likes, .int t_sights, .ref q_t_sight, .int t_signs, .ref q_t_pad, .ref q_t_then, .int t_worseAt, .int t_worseWho, .int t_hours, .ref q_t_ahead, .int t_reason, .int t_acts, .ref q_t_most, .ref q_t_worth, .ref q_t_damp, .ref q_t_next, .ref q_t_image, .ref q_t_isKept])), (q_t_likes, .inl (G 0, 6, .inl t_likes)), (q_t_most, .inl (G 0, 448, .inl a0_))] H → va_D A [(q_t, .inr (8, [.int t_there, .ref q_t_book, .ref q_t_now, .ref q_t_does, .ref q_t_bad, .ref q_t_likes, .int t_sights, .ref q_t_sight, .int t_signs, .ref q_t_pad, .ref q_t_then, .int t_worseAt, .int t_worseWho, .int t_hours, .ref q_t_ahead, .int t_reason, .int t_acts, .ref q_t_most, .ref q_t_worth, .ref q_t_damp, .ref q_t_next, .ref q_t_image, .ref q_t_isKept])), (q_t_likes, .inl (G 0, 6, .inl t_likes)), (q_t_most, .inl (G 0, 448, .inl a0_))] → va_S A s.heap H locs → W p l e (kR 2 81) s m args below meth c H locs 0 0 Q (F0 m pc ls []) := by
    intro a0_ hy; obtain rfl := sm1 hy
    exact RET
  have hown : s.vm.findClass RX8 = some m.cls := hown
  have hl : lv_has ls 6 [(0, .ref q_t)] := hl
  clear RET
  rw [fX8_laySeats] at hf
  refine lv_iconst (v := (5 : Int32)) hx hb dX8_laySeats_0 (by decide) ?_
  refine lv_istore_n (lv' := [(1, .int (5 : Int32)), (0, .ref q_t)]) hx hb dX8_laySeats_1 rfl hl (by decide) rfl (fun ls hl => ?_)
  obtain ⟨u330, h334, hf⟩ := bd1E hf
  have E331 : ∀ (z653 : Nat → Int32), some z653 = some u330 → ∀ (H : Heap) (locs : List Loc), va_P D vwCl [(q_t, .inr (8, [.int t_there, .ref q_t_book, .ref q_t_now, .ref q_t_does, .ref q_t_bad, .ref q_t_likes, .int t_sights, .ref q_t_sight, .int t_signs, .ref q_t_pad, .ref q_t_then, .int t_worseAt, .int t_worseWho, .int t_hours, .ref q_t_ahead, .int t_reason, .int t_acts, .ref q_t_most, .ref q_t_worth, .ref q_t_damp, .ref q_t_next, .ref q_t_image, .ref q_t_isKept])), (q_t_likes, .inl (G 0, 6, .inl t_likes)), (q_t_most, .inl (G 0, 448, .inl z653))] H → va_D A [(q_t, .inr (8, [.int t_there, .ref q_t_book, .ref q_t_now, .ref q_t_does, .ref q_t_bad, .ref q_t_likes, .int t_sights, .ref q_t_sight, .int t_signs, .ref q_t_pad, .ref q_t_then, .int t_worseAt, .int t_worseWho, .int t_hours, .ref q_t_ahead, .int t_reason, .int t_acts, .ref q_t_most, .ref q_t_worth, .ref q_t_damp, .ref q_t_next, .ref q_t_image, .ref q_t_isKept])), (q_t_likes, .inl (G 0, 6, .inl t_likes)), (q_t_most, .inl (G 0, 448, .inl z653))] → va_S A s.heap H locs → ∀ ls : Array Slot, lv_has ls 6 [] → W p l e (kR 2 81) s m args below meth c H locs 0 0 Q (F0 m 133 ls []) := by
    intro z653 hy; obtain rfl := sm1 hy
    intro H locs hP hD hS ls hl
    exact RT _ hf _ _ _ H locs dX8_laySeats_133 rkV hP hD hS
  have L332 : ∀ (k : Nat) (w328 : Int32) (w329 : Nat → Int32), fX8_laySeats_2 fu t_likes t_there k w328 w329 = some u330 → ∀ (H : Heap) (locs : List Loc), va_P D vwCl [(q_t, .inr (8, [.int t_there, .ref q_t_book, .ref q_t_now, .ref q_t_does, .ref q_t_bad, .ref q_t_likes, .int t_sights, .ref q_t_sight, .int t_signs, .ref q_t_pad, .ref q_t_then, .int t_worseAt, .int t_worseWho, .int t_hours, .ref q_t_ahead, .int t_reason, .int t_acts, .ref q_t_most, .ref q_t_worth, .ref q_t_damp, .ref q_t_next, .ref q_t_image, .ref q_t_isKept])), (q_t_likes, .inl (G 0, 6, .inl t_likes)), (q_t_most, .inl (G 0, 448, .inl w329))] H → va_D A [(q_t, .inr (8, [.int t_there, .ref q_t_book, .ref q_t_now, .ref q_t_does, .ref q_t_bad, .ref q_t_likes, .int t_sights, .ref q_t_sight, .int t_signs, .ref q_t_pad, .ref q_t_then, .int t_worseAt, .int t_worseWho, .int t_hours, .ref q_t_ahead, .int t_reason, .int t_acts, .ref q_t_most, .ref q_t_worth, .ref q_t_damp, .ref q_t_next, .ref q_t_image, .ref q_t_isKept])), (q_t_likes, .inl (G 0, 6, .inl t_likes)), (q_t_most, .inl (G 0, 448, .inl w329))] → va_S A s.heap H locs → ∀ ls : Array Slot, lv_has ls 6 [(0, .ref q_t), (1, .int w328)] → W p l e (kR 2 81) s m args below meth c H locs 0 0 Q (F0 m 2 ls []) := by
    intro k; induction k with
    | zero => intro w328 w329 hf; exact nosome hf
    | succ k ih =>
      intro w328 w329 hf; rw [fX8_laySeats_2] at hf
      intro H locs hP hD hS ls hl
      refine lv_iload_n hx hb dX8_laySeats_2 rfl (lv_at hl 1 rfl) ?_
      refine lv_if_lt (tgt := 133) hx hb dX8_laySeats_3 (by decide) (fun c337 => ?_) (fun c337 => ?_)
      · have hf := ifp c337 hf
        exact E331 _ hf H locs hP hD hS ls (lv_sub hl [] rfl)
      · have hf := ifn c337 hf
        refine lv_iconst (v := (0 : Int32)) hx hb dX8_laySeats_6 (by decide) ?_
        refine lv_istore_n (lv' := [(2, .int (0 : Int32)), (0, .ref q_t), (1, .int w328)]) hx hb dX8_laySeats_7 rfl hl (by decide) rfl (fun ls hl => ?_)
        obtain ⟨u498, h502, hf⟩ := bd1E hf
        have E499 : ∀ (z651 : Nat → Int32), some z651 = some u498 → ∀ (H : Heap) (locs : List Loc), va_P D vwCl [(q_t, .inr (8, [.int t_there, .ref q_t_book, .ref q_t_now, .ref q_t_does, .ref q_t_bad, .ref q_t_likes, .int t_sights, .ref q_t_sight, .int t_signs, .ref q_t_pad, .ref q_t_then, .int t_worseAt, .int t_worseWho, .int t_hours, .ref q_t_ahead, .int t_reason, .int t_acts, .ref q_t_most, .ref q_t_worth, .ref q_t_damp, .ref q_t_next, .ref q_t_image, .ref q_t_isKept])), (q_t_likes, .inl (G 0, 6, .inl t_likes)), (q_t_most, .inl (G 0, 448, .inl z651))] H → va_D A [(q_t, .inr (8, [.int t_there, .ref q_t_book, .ref q_t_now, .ref q_t_does, .ref q_t_bad, .ref q_t_likes, .int t_sights, .ref q_t_sight, .int t_signs, .ref q_t_pad, .ref q_t_then, .int t_worseAt, .int t_worseWho, .int t_hours, .ref q_t_ahead, .int t_reason, .int t_acts, .ref q_t_most, .ref q_t_worth, .ref q_t_damp, .ref q_t_next, .ref q_t_image, .ref q_t_isKept])), (q_t_likes, .inl (G 0, 6, .inl t_likes)), (q_t_most, .inl (G 0, 448, .inl z651))] → va_S A s.heap H locs → ∀ ls : Array Slot, lv_has ls 6 [(0, .ref q_t), (1, .int w328)] → W p l e (kR 2 81) s m args below meth c H locs 0 0 Q (F0 m 127 ls []) := by
          intro z651 hy; obtain rfl := sm1 hy
          intro H locs hP hD hS ls hl
          obtain ⟨y652, ey652⟩ : ∃ y : Int32, y = w328 + (-1 : Int32) := ⟨_, rfl⟩
          have hf := nmeU ey652 hf
          refine lv_iinc (v := y652) (lv' := [(1, .int y652), (0, .ref q_t)]) hx hb dX8_laySeats_127 hl (k := 1) rfl (by rw [ey652]; rfl) (by decide) rfl (fun ls hl => ?_)
          refine lv_goto (tgt := 2) hx hb dX8_laySeats_130 (by decide) ?_
          exact ih _ _ hf H locs hP hD hS ls (lv_sub hl [1, 0] rfl)
        have L500 : ∀ (k : Nat) (w496 : Int32) (w497 : Nat → Int32), fX8_laySeats_8 fu w328 t_likes t_there k w496 w497 = some u498 → ∀ (H : Heap) (locs : List Loc), va_P D vwCl [(q_t, .inr (8, [.int t_there, .ref q_t_book, .ref q_t_now, .ref q_t_does, .ref q_t_bad, .ref q_t_likes, .int t_sights, .ref q_t_sight, .int t_signs, .ref q_t_pad, .ref q_t_then, .int t_worseAt, .int t_worseWho, .int t_hours, .ref q_t_ahead, .int t_reason, .int t_acts, .ref q_t_most, .ref q_t_worth, .ref q_t_damp, .ref q_t_next, .ref q_t_image, .ref q_t_isKept])), (q_t_likes, .inl (G 0, 6, .inl t_likes)), (q_t_most, .inl (G 0, 448, .inl w497))] H → va_D A [(q_t, .inr (8, [.int t_there, .ref q_t_book, .ref q_t_now, .ref q_t_does, .ref q_t_bad, .ref q_t_likes, .int t_sights, .ref q_t_sight, .int t_signs, .ref q_t_pad, .ref q_t_then, .int t_worseAt, .int t_worseWho, .int t_hours, .ref q_t_ahead, .int t_reason, .int t_acts, .ref q_t_most, .ref q_t_worth, .ref q_t_damp, .ref q_t_next, .ref q_t_image, .ref q_t_isKept])), (q_t_likes, .inl (G 0, 6, .inl t_likes)), (q_t_most, .inl (G 0, 448, .inl w497))] → va_S A s.heap H locs → ∀ ls : Array Slot, lv_has ls 6 [(0, .ref q_t), (1, .int w328), (2, .int w496)] → W p l e (kR 2 81) s m args below meth c H locs 0 0 Q (F0 m 8 ls []) := by
          intro k; induction k with
          | zero => intro w496 w497 hf; exact nosome hf
          | succ k ih =>
            intro w496 w497 hf; rw [fX8_laySeats_8] at hf
            intro H locs hP hD hS ls hl
            refine lv_iload_n hx hb dX8_laySeats_8 rfl (lv_at hl 2 rfl) ?_
            refine lv_bipush (v := (64 : Int32)) hx hb dX8_laySeats_9 (by decide) ?_
            refine lv_icmp_ge (tgt := 127) hx hb dX8_laySeats_11 (by decide) (fun c505 => ?_) (fun c505 => ?_)
            · have hf := ifp c505 hf
              exact E499 _ hf H locs hP hD hS ls (lv_sub hl [0, 1] rfl)
            · have hf := ifn c505 hf
              refine lv_aload_n hx hb dX8_laySeats_14 rfl (lv_at hl 0 rfl) ?_
              refine va_get (D := D) (ci := 8) (v := .ref q_t_most) (C := RX8) (T := TX8) (N := 23) hx hb hts inX8 hown hK hP 0 rfl rfl 17 (by decide) (hts _ lfX8_37) (fun _ h9 => h9) rfl dX8_laySeats_15 ?_
              refine lv_bipush (v := (64 : Int32)) hx hb dX8_laySeats_18 (by decide) ?_
              refine lv_iload_n hx hb dX8_laySeats_20 rfl (lv_at hl 1 rfl) ?_
              refine lv_imul hx hb dX8_laySeats_21 ?_
              refine lv_bipush (v := (64 : Int32)) hx hb dX8_laySeats_22 (by decide) ?_
              refine lv_iadd hx hb dX8_laySeats_24 ?_
              refine lv_iload_n hx hb dX8_laySeats_25 rfl (lv_at hl 2 rfl) ?_
              refine lv_iadd hx hb dX8_laySeats_26 ?_
              obtain ⟨x506, ex506, ix506, hf⟩ := ldIE hf
              refine k_iald hx hb hK hP 2 0 rfl rfl ix506 ex506 dX8_laySeats_27 ?_
              refine lv_istore_n (lv' := [(3, .int x506), (0, .ref q_t), (1, .int w328), (2, .int w496)]) hx hb dX8_laySeats_28 rfl hl (by decide) rfl (fun ls hl => ?_)
              refine lv_iconst (v := (0 : Int32)) hx hb dX8_laySeats_29 (by decide) ?_
              refine lv_istore (lv' := [(4, .int (0 : Int32)), (3, .int x506), (0, .ref q_t), (1, .int w328), (2, .int w496)]) hx hb dX8_laySeats_30 hl (by decide) rfl (fun ls hl => ?_)
              obtain ⟨u582, h586, hf⟩ := bd1E hf
              have E583 : ∀ (z648 : Int32), some z648 = some u582 → ∀ (H : Heap) (locs : List Loc), va_P D vwCl [(q_t, .inr (8, [.int t_there, .ref q_t_book, .ref q_t_now, .ref q_t_does, .ref q_t_bad, .ref q_t_likes, .int t_sights, .ref q_t_sight, .int t_signs, .ref q_t_pad, .ref q_t_then, .int t_worseAt, .int t_worseWho, .int t_hours, .ref q_t_ahead, .int t_reason, .int t_acts, .ref q_t_most, .ref q_t_worth, .ref q_t_damp, .ref q_t_next, .ref q_t_image, .ref q_t_isKept])), (q_t_likes, .inl (G 0, 6, .inl t_likes)), (q_t_most, .inl (G 0, 448, .inl w497))] H → va_D A [(q_t, .inr (8, [.int t_there, .ref q_t_book, .ref q_t_now, .ref q_t_does, .ref q_t_bad, .ref q_t_likes, .int t_sights, .ref q_t_sight, .int t_signs, .ref q_t_pad, .ref q_t_then, .int t_worseAt, .int t_worseWho, .int t_hours, .ref q_t_ahead, .int t_reason, .int t_acts, .ref q_t_most, .ref q_t_worth, .ref q_t_damp, .ref q_t_next, .ref q_t_image, .ref q_t_isKept])), (q_t_likes, .inl (G 0, 6, .inl t_likes)), (q_t_most, .inl (G 0, 448, .inl w497))] → va_S A s.heap H locs → ∀ ls : Array Slot, lv_has ls 6 [(0, .ref q_t), (1, .int w328), (2, .int w496), (3, .int z648)] → W p l e (kR 2 81) s m args below meth c H locs 0 0 Q (F0 m 109 ls []) := by
                intro z648 hy; obtain rfl := sm1 hy
                intro H locs hP hD hS ls hl
                refine lv_aload_n hx hb dX8_laySeats_109 rfl (lv_at hl 0 rfl) ?_
                refine va_get (D := D) (ci := 8) (v := .ref q_t_most) (C := RX8) (T := TX8) (N := 23) hx hb hts inX8 hown hK hP 0 rfl rfl 17 (by decide) (hts _ lfX8_37) (fun _ h9 => h9) rfl dX8_laySeats_110 ?_
                refine lv_bipush (v := (64 : Int32)) hx hb dX8_laySeats_113 (by decide) ?_
                refine lv_iload_n hx hb dX8_laySeats_115 rfl (lv_at hl 1 rfl) ?_
                refine lv_imul hx hb dX8_laySeats_116 ?_
                refine lv_iload_n hx hb dX8_laySeats_117 rfl (lv_at hl 2 rfl) ?_
                refine lv_iadd hx hb dX8_laySeats_118 ?_
                refine lv_iload_n hx hb dX8_laySeats_119 rfl (lv_at hl 3 rfl) ?_
                obtain ⟨g649, eg649, ig649, hf⟩ := stIE hf
                refine k_iast hx hb hK hP hD hS 2 0 rfl rfl ig649 eg649 dX8_laySeats_120 (fun H locs hP hD hS => ?_)
                have hP : va_P D vwCl [(q_t, .inr (8, [.int t_there, .ref q_t_book, .ref q_t_now, .ref q_t_does, .ref q_t_bad, .ref q_t_likes, .int t_sights, .ref q_t_sight, .int t_signs, .ref q_t_pad, .ref q_t_then, .int t_worseAt, .int t_worseWho, .int t_hours, .ref q_t_ahead, .int t_reason, .int t_acts, .ref q_t_most, .ref q_t_worth, .ref q_t_damp, .ref q_t_next, .ref q_t_image, .ref q_t_isKept])), (q_t_likes, .inl (G 0, 6, .inl t_likes)), (q_t_most, .inl (G 0, 448, .inl g649))] H := hP
                have hD : va_D A [(q_t, .inr (8, [.int t_there, .ref q_t_book, .ref q_t_now, .ref q_t_does, .ref q_t_bad, .ref q_t_likes, .int t_sights, .ref q_t_sight, .int t_signs, .ref q_t_pad, .ref q_t_then, .int t_worseAt, .int t_worseWho, .int t_hours, .ref q_t_ahead, .int t_reason, .int t_acts, .ref q_t_most, .ref q_t_worth, .ref q_t_damp, .ref q_t_next, .ref q_t_image, .ref q_t_isKept])), (q_t_likes, .inl (G 0, 6, .inl t_likes)), (q_t_most, .inl (G 0, 448, .inl g649))] := hD
                obtain ⟨y650, ey650⟩ : ∃ y : Int32, y = w496 + (1 : Int32) := ⟨_, rfl⟩
                have hf := nmeU ey650 hf
                refine lv_iinc (v := y650) (lv' := [(2, .int y650), (0, .ref q_t), (1, .int w328), (3, .int z648)]) hx hb dX8_laySeats_121 hl (k := 2) rfl (by rw [ey650]; rfl) (by decide) rfl (fun ls hl => ?_)
                refine lv_goto (tgt := 8) hx hb dX8_laySeats_124 (by decide) ?_
                exact ih _ _ hf H locs hP hD hS ls (lv_sub hl [1, 2, 0] rfl)
              have L584 : ∀ (k : Nat) (w580 : Int32) (w581 : Int32), fX8_laySeats_32 t_likes w328 t_there w496 w497 k w580 w581 = some u582 → ∀ (H : Heap) (locs : List Loc), va_P D vwCl [(q_t, .inr (8, [.int t_there, .ref q_t_book, .ref q_t_now, .ref q_t_does, .ref q_t_bad, .ref q_t_likes, .int t_sights, .ref q_t_sight, .int t_signs, .ref q_t_pad, .ref q_t_then, .int t_worseAt, .int t_worseWho, .int t_hours, .ref q_t_ahead, .int t_reason, .int t_acts, .ref q_t_most, .ref q_t_worth, .ref q_t_damp, .ref q_t_next, .ref q_t_image, .ref q_t_isKept])), (q_t_likes, .inl (G 0, 6, .inl t_likes)), (q_t_most, .inl (G 0, 448, .inl w497))] H → va_D A [(q_t, .inr (8, [.int t_there, .ref q_t_book, .ref q_t_now, .ref q_t_does, .ref q_t_bad, .ref q_t_likes, .int t_sights, .ref q_t_sight, .int t_signs, .ref q_t_pad, .ref q_t_then, .int t_worseAt, .int t_worseWho, .int t_hours, .ref q_t_ahead, .int t_reason, .int t_acts, .ref q_t_most, .ref q_t_worth, .ref q_t_damp, .ref q_t_next, .ref q_t_image, .ref q_t_isKept])), (q_t_likes, .inl (G 0, 6, .inl t_likes)), (q_t_most, .inl (G 0, 448, .inl w497))] → va_S A s.heap H locs → ∀ ls : Array Slot, lv_has ls 6 [(0, .ref q_t), (1, .int w328), (2, .int w496), (3, .int w580), (4, .int w581)] → W p l e (kR 2 81) s m args below meth c H locs 0 0 Q (F0 m 32 ls []) := by
                intro k; induction k with
                | zero => intro w580 w581 hf; exact nosome hf
                | succ k ih =>
                  intro w580 w581 hf; rw [fX8_laySeats_32] at hf
                  intro H locs hP hD hS ls hl
                  refine lv_iload hx hb dX8_laySeats_32 (lv_at hl 4 rfl) ?_
                  refine lv_bipush (v := (6 : Int32)) hx hb dX8_laySeats_34 (by decide) ?_
                  refine lv_icmp_ge (tgt := 109) hx hb dX8_laySeats_36 (by decide) (fun c589 => ?_) (fun c589 => ?_)
                  · have hf := ifp c589 hf
                    exact E583 _ hf H locs hP hD hS ls (lv_sub hl [0, 1, 2, 3] rfl)
                  · have hf := ifn c589 hf
                    refine lv_aload_n hx hb dX8_laySeats_39 rfl (lv_at hl 0 rfl) ?_
                    refine va_get (D := D) (ci := 8) (v := .ref q_t_likes) (C := RX8) (T := TX8) (N := 23) hx hb hts inX8 hown hK hP 0 rfl rfl 5 (by decide) (hts _ lfX8_22) (fun _ h9 => h9) rfl dX8_laySeats_40 ?_
                    refine lv_iload_n hx hb dX8_laySeats_43 rfl (lv_at hl 1 rfl) ?_
                    obtain ⟨x590, ex590, ix590, hf⟩ := ldIE hf
                    refine k_iald hx hb hK hP 1 0 rfl rfl ix590 ex590 dX8_laySeats_44 ?_
                    refine lv_aload_n hx hb dX8_laySeats_45 rfl (lv_at hl 0 rfl) ?_
                    refine va_get (D := D) (ci := 8) (v := .int t_there) (C := RX8) (T := TX8) (N := 23) hx hb hts inX8 hown hK hP 0 rfl rfl 0 (by decide) (hts _ lfX8_57) (fun _ h9 => h9) rfl dX8_laySeats_46 ?_
                    refine lv_iand hx hb dX8_laySeats_49 ?_
                    refine lv_iload hx hb dX8_laySeats_50 (lv_at hl 4 rfl) ?_
                    obtain ⟨r591, h592, hf⟩ := bd1E hf
                    refine kO_stat hx hb hml hown hts hK hn hP (kX8_has l D G (x590 &&& t_there) w581 h592) csX8_65 ⟨Nat.le_of_ble_eq_true rfl, Nat.le_of_ble_eq_true rfl⟩ [] rfl rfl hl.1 rfl (Nat.le_of_ble_eq_true rfl) ⟨Nat.zero_le _, Nat.zero_le _⟩ dX8_laySeats_52 ?_
                    obtain ⟨j618, h647, hf⟩ := bd1E hf
                    have E621 : ∀ (z619 : Int32), some z619 = some j618 → ∀ (H : Heap) (locs : List Loc), va_P D vwCl [(q_t, .inr (8, [.int t_there, .ref q_t_book, .ref q_t_now, .ref q_t_does, .ref q_t_bad, .ref q_t_likes, .int t_sights, .ref q_t_sight, .int t_signs, .ref q_t_pad, .ref q_t_then, .int t_worseAt, .int t_worseWho, .int t_hours, .ref q_t_ahead, .int t_reason, .int t_acts, .ref q_t_most, .ref q_t_worth, .ref q_t_damp, .ref q_t_next, .ref q_t_image, .ref q_t_isKept])), (q_t_likes, .inl (G 0, 6, .inl t_likes)), (q_t_most, .inl (G 0, 448, .inl w497))] H → va_D A [(q_t, .inr (8, [.int t_there, .ref q_t_book, .ref q_t_now, .ref q_t_does, .ref q_t_bad, .ref q_t_likes, .int t_sights, .ref q_t_sight, .int t_signs, .ref q_t_pad, .ref q_t_then, .int t_worseAt, .int t_worseWho, .int t_hours, .ref q_t_ahead, .int t_reason, .int t_acts, .ref q_t_most, .ref q_t_worth, .ref q_t_damp, .ref q_t_next, .ref q_t_image, .ref q_t_isKept])), (q_t_likes, .inl (G 0, 6, .inl t_likes)), (q_t_most, .inl (G 0, 448, .inl w497))] → va_S A s.heap H locs → ∀ ls : Array Slot, lv_has ls 6 [(0, .ref q_t), (1, .int w328), (2, .int w496), (3, .int z619), (4, .int w581)] → W p l e (kR 2 81) s m args below meth c H locs 0 0 Q (F0 m 103 ls []) := by
                      intro z619 hy; obtain rfl := sm1 hy
                      intro H locs hP hD hS ls hl
                      obtain ⟨y620, ey620⟩ : ∃ y : Int32, y = w581 + (1 : Int32) := ⟨_, rfl⟩
                      have hf := nmeU ey620 hf
                      refine lv_iinc (v := y620) (lv' := [(4, .int y620), (0, .ref q_t), (1, .int w328), (2, .int w496), (3, .int z619)]) hx hb dX8_laySeats_103 hl (k := 4) rfl (by rw [ey620]; rfl) (by decide) rfl (fun ls hl => ?_)
                      refine lv_goto (tgt := 32) hx hb dX8_laySeats_106 (by decide) ?_
                      exact ih _ _ hf H locs hP hD hS ls (lv_sub hl [1, 2, 3, 4, 0] rfl)
                    have hf := h647
                    refine lv_if_eq (tgt := 103) hx hb dX8_laySeats_55 (by decide) (fun c622 => ?_) (fun c622 => ?_)
                    · have hf := ifp c622 hf
                      exact E621 _ hf H locs hP hD hS ls (lv_sub hl [0, 1, 2, 3, 4] rfl)
                    · have hf := ifn c622 hf
                      refine lv_iload_n hx hb dX8_laySeats_58 rfl (lv_at hl 2 rfl) ?_
                      refine lv_iload hx hb dX8_laySeats_59 (lv_at hl 4 rfl) ?_
                      obtain ⟨r623, h624, hf⟩ := bd1E hf
                      refine kO_stat hx hb hml hown hts hK hn hP (kX8_has l D G w496 w581 h624) csX8_65 ⟨Nat.le_of_ble_eq_true rfl, Nat.le_of_ble_eq_true rfl⟩ [] rfl rfl hl.1 rfl (Nat.le_of_ble_eq_true rfl) ⟨Nat.zero_le _, Nat.zero_le _⟩ dX8_laySeats_61 ?_
                      obtain ⟨j634, h646, hf⟩ := bd1E hf
                      have E636 : ∀ (z635 : Int32), some z635 = some j634 → ∀ (H : Heap) (locs : List Loc), va_P D vwCl [(q_t, .inr (8, [.int t_there, .ref q_t_book, .ref q_t_now, .ref q_t_does, .ref q_t_bad, .ref q_t_likes, .int t_sights, .ref q_t_sight, .int t_signs, .ref q_t_pad, .ref q_t_then, .int t_worseAt, .int t_worseWho, .int t_hours, .ref q_t_ahead, .int t_reason, .int t_acts, .ref q_t_most, .ref q_t_worth, .ref q_t_damp, .ref q_t_next, .ref q_t_image, .ref q_t_isKept])), (q_t_likes, .inl (G 0, 6, .inl t_likes)), (q_t_most, .inl (G 0, 448, .inl w497))] H → va_D A [(q_t, .inr (8, [.int t_there, .ref q_t_book, .ref q_t_now, .ref q_t_does, .ref q_t_bad, .ref q_t_likes, .int t_sights, .ref q_t_sight, .int t_signs, .ref q_t_pad, .ref q_t_then, .int t_worseAt, .int t_worseWho, .int t_hours, .ref q_t_ahead, .int t_reason, .int t_acts, .ref q_t_most, .ref q_t_worth, .ref q_t_damp, .ref q_t_next, .ref q_t_image, .ref q_t_isKept])), (q_t_likes, .inl (G 0, 6, .inl t_likes)), (q_t_most, .inl (G 0, 448, .inl w497))] → va_S A s.heap H locs → ∀ ls : Array Slot, lv_has ls 6 [(0, .ref q_t), (1, .int w328), (2, .int w496), (3, .int z635), (4, .int w581)] → W p l e (kR 2 81) s m args below meth c H locs 0 0 Q (F0 m 103 ls []) := by
                        intro z635 hy; obtain rfl := sm1 hy
                        intro H locs hP hD hS ls hl
                        exact E621 _ hf H locs hP hD hS ls (lv_sub hl [0, 1, 2, 3, 4] rfl)
                      have hf := h646
                      refine lv_if_ne (tgt := 103) hx hb dX8_laySeats_64 (by decide) (fun c637 => ?_) (fun c637 => ?_)
                      · have hf := ifn c637 hf
                        exact E636 _ hf H locs hP hD hS ls (lv_sub hl [0, 1, 2, 3, 4] rfl)
                      · have hf := ifp c637 hf
                        refine lv_iconst (v := (1 : Int32)) hx hb dX8_laySeats_67 (by decide) ?_
                        refine lv_aload_n hx hb dX8_laySeats_68 rfl (lv_at hl 0 rfl) ?_
                        refine va_get (D := D) (ci := 8) (v := .ref q_t_most) (C := RX8) (T := TX8) (N := 23) hx hb hts inX8 hown hK hP 0 rfl rfl 17 (by decide) (hts _ lfX8_37) (fun _ h9 => h9) rfl dX8_laySeats_69 ?_
                        refine lv_bipush (v := (64 : Int32)) hx hb dX8_laySeats_72 (by decide) ?_
                        refine lv_iload_n hx hb dX8_laySeats_74 rfl (lv_at hl 1 rfl) ?_
                        refine lv_imul hx hb dX8_laySeats_75 ?_
                        refine lv_bipush (v := (64 : Int32)) hx hb dX8_laySeats_76 (by decide) ?_
                        refine lv_iadd hx hb dX8_laySeats_78 ?_
                        refine lv_iload_n hx hb dX8_laySeats_79 rfl (lv_at hl 2 rfl) ?_
                        refine lv_iconst (v := (1 : Int32)) hx hb dX8_laySeats_80 (by decide) ?_
                        refine lv_iload hx hb dX8_laySeats_81 (lv_at hl 4 rfl) ?_
                        refine lv_ishl hx hb dX8_laySeats_83 ?_
                        refine lv_ior hx hb dX8_laySeats_84 ?_
                        refine lv_iadd hx hb dX8_laySeats_85 ?_
                        obtain ⟨x638, ex638, ix638, hf⟩ := ldIE hf
                        refine k_iald hx hb hK hP 2 0 rfl rfl ix638 ex638 dX8_laySeats_86 ?_
                        refine lv_iadd hx hb dX8_laySeats_87 ?_
                        refine lv_topi (fun y639 ey639 => ?_)
                        have hf := nmeU ey639 hf
                        refine lv_istore (lv' := [(5, .int y639), (0, .ref q_t), (1, .int w328), (2, .int w496), (3, .int w580), (4, .int w581)]) hx hb dX8_laySeats_88 hl (by decide) rfl (fun ls hl => ?_)
                        refine lv_iload hx hb dX8_laySeats_90 (lv_at hl 0 rfl) ?_
                        refine lv_iload_n hx hb dX8_laySeats_92 rfl (lv_at hl 4 rfl) ?_
                        obtain ⟨j641, h645, hf⟩ := bd1E hf
                        have E643 : ∀ (z642 : Int32), some z642 = some j641 → ∀ (H : Heap) (locs : List Loc), va_P D vwCl [(q_t, .inr (8, [.int t_there, .ref q_t_book, .ref q_t_now, .ref q_t_does, .ref q_t_bad, .ref q_t_likes, .int t_sights, .ref q_t_sight, .int t_signs, .ref q_t_pad, .ref q_t_then, .int t_worseAt, .int t_worseWho, .int t_hours, .ref q_t_ahead, .int t_reason, .int t_acts, .ref q_t_most, .ref q_t_worth, .ref q_t_damp, .ref q_t_next, .ref q_t_image, .ref q_t_isKept])), (q_t_likes, .inl (G 0, 6, .inl t_likes)), (q_t_most, .inl (G 0, 448, .inl w497))] H → va_D A [(q_t, .inr (8, [.int t_there, .ref q_t_book, .ref q_t_now, .ref q_t_does, .ref q_t_bad, .ref q_t_likes, .int t_sights, .ref q_t_sight, .int t_signs, .ref q_t_pad, .ref q_t_then, .int t_worseAt, .int t_worseWho, .int t_hours, .ref q_t_ahead, .int t_reason, .int t_acts, .ref q_t_most, .ref q_t_worth, .ref q_t_damp, .ref q_t_next, .ref q_t_image, .ref q_t_isKept])), (q_t_likes, .inl (G 0, 6, .inl t_likes)), (q_t_most, .inl (G 0, 448, .inl w497))] → va_S A s.heap H locs → ∀ ls : Array Slot, lv_has ls 6 [(0, .ref q_t), (1, .int w328), (2, .int w496), (4, .int w581)] → W p l e (kR 2 81) s m args below meth c H locs 0 0 Q (F0 m 102 ls [.int z642]) := by
                          intro z642 hy; obtain rfl := sm1 hy
                          intro H locs hP hD hS ls hl
                          refine lv_istore_n (lv' := [(3, .int z642), (0, .ref q_t), (1, .int w328), (2, .int w496), (4, .int w581)]) hx hb dX8_laySeats_102 rfl hl (by decide) rfl (fun ls hl => ?_)
                          exact E636 _ hf H locs hP hD hS ls (lv_sub hl [1, 2, 3, 0, 4] rfl)
                        have hf := h645
                        refine lv_icmp_le (tgt := 101) hx hb dX8_laySeats_93 (by decide) (fun c644 => ?_) (fun c644 => ?_)
                        · have hf := ifp c644 hf
                          refine lv_iload_n hx hb dX8_laySeats_101 rfl (lv_at hl 4 rfl) ?_
                          exact E643 _ hf H locs hP hD hS ls (lv_sub hl [1, 2, 3, 5] rfl)
                        · have hf := ifn c644 hf
                          refine lv_iload hx hb dX8_laySeats_96 (lv_at hl 0 rfl) ?_
                          refine lv_goto (tgt := 102) hx hb dX8_laySeats_98 (by decide) ?_
                          exact E643 _ hf H locs hP hD hS ls (lv_sub hl [1, 2, 3, 5] rfl)
              exact L584 fu x506 (0 : Int32) h586 H locs hP hD hS ls (lv_sub hl [2, 3, 4, 1, 0] rfl)
        exact L500 fu (0 : Int32) w329 h502 H locs hP hD hS ls (lv_sub hl [1, 2, 0] rfl)
  exact L332 fu (5 : Int32) t_most h334 H locs hP hD hS ls (lv_sub hl [1, 0] rfl)
set_option maxHeartbeats 4000000 in
set_option maxRecDepth 100000 in
theorem kX8_leave (l : Launch) (D : va_G) (G : Nat → ClassId) (fu : Nat) (q_t q_t_book q_t_now q_t_does q_t_bad q_t_likes q_t_sight q_t_pad q_t_then q_t_ahead q_t_most q_t_worth q_t_damp q_t_next q_t_image q_t_isKept : Nat) (t_there : Int32) (t_sights : Int32) (t_signs : Int32) (t_worseAt : Int32) (t_worseWho : Int32) (t_hours : Int32) (t_reason : Int32) (t_acts : Int32) (t_book : Nat → Int32) (v1 : Int32) {r : Int32} {o_t_there : Int32} {o_t_book : Nat → Int32} (hf : fX8_leave fu t_there t_book v1 = some (r, o_t_there, o_t_book)) : rW l D G yX8_leave cX8_leave 2 (some .int) 3 103 [.ref q_t, .int v1] [(q_t, .inr (8, [.int t_there, .ref q_t_book, .ref q_t_now, .ref q_t_does, .ref q_t_bad, .ref q_t_likes, .int t_sights, .ref q_t_sight, .int t_signs, .ref q_t_pad, .ref q_t_then, .int t_worseAt, .int t_worseWho, .int t_hours, .ref q_t_ahead, .int t_reason, .int t_acts, .ref q_t_most, .ref q_t_worth, .ref q_t_damp, .ref q_t_next, .ref q_t_image, .ref q_t_isKept])), (q_t_book, .inl (G 0, 26, .inl t_book))] [(q_t, .inr (8, [.int o_t_there, .ref q_t_book, .ref q_t_now, .ref q_t_does, .ref q_t_bad, .ref q_t_likes, .int t_sights, .ref q_t_sight, .int t_signs, .ref q_t_pad, .ref q_t_then, .int t_worseAt, .int t_worseWho, .int t_hours, .ref q_t_ahead, .int t_reason, .int t_acts, .ref q_t_most, .ref q_t_worth, .ref q_t_damp, .ref q_t_next, .ref q_t_image, .ref q_t_isKept])), (q_t_book, .inl (G 0, 26, .inl o_t_book))] (some (.int r)) := by
  refine rW_of (by decide) (Nat.le_of_ble_eq_true rfl) ?_
  intro p e s m args below meth c Q A hx hb hml hown hts hK hn hA RET H locs hP hD hS ls hl
  have RT : ∀ (a0_ : Int32) (a1_ : Int32) (a2_ : Nat → Int32), some (a0_, a1_, a2_) = some (r, o_t_there, o_t_book) → ∀ (pc : Nat) (ls : Array Slot) (ins : Instr) (H : Heap) (locs : List Loc), decode cX8_leave pc = .ok (ins, 1) → rk (some .int) (some (.int a0_)) ins → va_P D vwCl [(q_t, .inr (8, [.int a1_, .ref q_t_book, .ref q_t_now, .ref q_t_does, .ref q_t_bad, .ref q_t_likes, .int t_sights, .ref q_t_sight, .int t_signs, .ref q_t_pad, .ref q_t_then, .int t_worseAt, .int t_worseWho, .int t_hours, .ref q_t_ahead, .int t_reason, .int t_acts, .ref q_t_most, .ref q_t_worth, .ref q_t_damp, .ref q_t_next, .ref q_t_image, .ref q_t_isKept])), (q_t_book, .inl (G 0, 26, .inl a2_))] H → va_D A [(q_t, .inr (8, [.int a1_, .ref q_t_book, .ref q_t_now, .ref q_t_does, .ref q_t_bad, .ref q_t_likes, .int t_sights, .ref q_t_sight, .int t_signs, .ref q_t_pad, .ref q_t_then, .int t_worseAt, .int t_worseWho, .int t_hours, .ref q_t_ahead, .int t_reason, .int t_acts, .ref q_t_most, .ref q_t_worth, .ref q_t_damp, .ref q_t_next, .ref q_t_image, .ref q_t_isKept])), (q_t_book, .inl (G 0, 26, .inl a2_))] → va_S A s.heap H locs → W p l e (kR 3 103) s m args below meth c H locs 0 0 Q (F0 m pc ls [.int a0_]) := by
    intro a0_ a1_ a2_ hy; obtain ⟨rfl, rfl, rfl⟩ := sm3 hy
    exact RET
  have hown : s.vm.findClass RX8 = some m.cls := hown
  have hl : lv_has ls 2 [(0, .ref q_t), (1, .int v1)] := hl
  clear RET
  rw [fX8_leave] at hf
  refine lv_aload_n hx hb dX8_leave_0 rfl (lv_at hl 0 rfl) ?_
  refine lv_iload_n hx hb dX8_leave_1 rfl (lv_at hl 1 rfl) ?_
  obtain ⟨r1, h2, hf⟩ := bd1E hf
  refine kO_virt hx hb hml hown hts hK hn hP (kX8_isThere l D G q_t q_t_book q_t_now q_t_does q_t_bad q_t_likes q_t_sight q_t_pad q_t_then q_t_ahead q_t_most q_t_worth q_t_damp q_t_next q_t_image q_t_isKept t_there t_sights t_signs t_worseAt t_worseWho t_hours t_reason t_acts v1 h2) cvX8_73 ⟨Nat.le_of_ble_eq_true rfl, Nat.le_of_ble_eq_true rfl⟩ [0] rfl 0 rfl rfl rfl hl.1 rfl (Nat.le_of_ble_eq_true rfl) ⟨Nat.zero_le _, Nat.zero_le _⟩ dX8_leave_2 ?_
  refine lv_if_ne (tgt := 10) hx hb dX8_leave_5 (by decide) (fun c3 => ?_) (fun c3 => ?_)
  · have hf := ifn c3 hf
    refine lv_aload_n hx hb dX8_leave_10 rfl (lv_at hl 0 rfl) ?_
    refine lv_dup hx hb dX8_leave_11 rfl ?_
    refine va_get (D := D) (ci := 8) (v := .int t_there) (C := RX8) (T := TX8) (N := 23) hx hb hts inX8 hown hK hP 0 rfl rfl 0 (by decide) (hts _ lfX8_57) (fun _ h9 => h9) rfl dX8_leave_12 ?_
    refine lv_iconst (v := (1 : Int32)) hx hb dX8_leave_15 (by decide) ?_
    refine lv_iload_n hx hb dX8_leave_16 rfl (lv_at hl 1 rfl) ?_
    refine lv_ishl hx hb dX8_leave_17 ?_
    refine lv_iconst (v := (-1 : Int32)) hx hb dX8_leave_18 (by decide) ?_
    refine lv_ixor hx hb dX8_leave_19 ?_
    refine lv_iand hx hb dX8_leave_20 ?_
    refine lv_topi (fun y4 ey4 => ?_)
    have hf := nmeU ey4 hf
    refine va_put (D := D) (ci := 8) (v := .int y4) (ty := .int) (C := RX8) (T := TX8) (N := 23) hx hb hts inX8 tyX8 tyX8_ok nmX8 hown hK hP hD hS 0 rfl rfl 0 (by decide) (hts _ lfX8_57) (fun _ h9 => h9) rfl (tyX8_ok 0 (by decide)) rfl rfl (Nat.le_of_ble_eq_true rfl) dX8_leave_21 (fun H locs hP hD hS => ?_)
    have hP : va_P D vwCl [(q_t, .inr (8, [.int y4, .ref q_t_book, .ref q_t_now, .ref q_t_does, .ref q_t_bad, .ref q_t_likes, .int t_sights, .ref q_t_sight, .int t_signs, .ref q_t_pad, .ref q_t_then, .int t_worseAt, .int t_worseWho, .int t_hours, .ref q_t_ahead, .int t_reason, .int t_acts, .ref q_t_most, .ref q_t_worth, .ref q_t_damp, .ref q_t_next, .ref q_t_image, .ref q_t_isKept])), (q_t_book, .inl (G 0, 26, .inl t_book))] H := hP
    have hD : va_D A [(q_t, .inr (8, [.int y4, .ref q_t_book, .ref q_t_now, .ref q_t_does, .ref q_t_bad, .ref q_t_likes, .int t_sights, .ref q_t_sight, .int t_signs, .ref q_t_pad, .ref q_t_then, .int t_worseAt, .int t_worseWho, .int t_hours, .ref q_t_ahead, .int t_reason, .int t_acts, .ref q_t_most, .ref q_t_worth, .ref q_t_damp, .ref q_t_next, .ref q_t_image, .ref q_t_isKept])), (q_t_book, .inl (G 0, 26, .inl t_book))] := hD
    refine lv_aload_n hx hb dX8_leave_24 rfl (lv_at hl 0 rfl) ?_
    refine va_get (D := D) (ci := 8) (v := .ref q_t_book) (C := RX8) (T := TX8) (N := 23) hx hb hts inX8 hown hK hP 0 rfl rfl 1 (by decide) (hts _ lfX8_7) (fun _ h9 => h9) rfl dX8_leave_25 ?_
    refine lv_bipush (v := (24 : Int32)) hx hb dX8_leave_28 (by decide) ?_
    refine lv_dup2_11 hx hb dX8_leave_30 rfl rfl ?_
    obtain ⟨x5, ex5, ix5, hf⟩ := ldIE hf
    refine k_iald hx hb hK hP 1 0 rfl rfl ix5 ex5 dX8_leave_31 ?_
    refine lv_iconst (v := (1 : Int32)) hx hb dX8_leave_32 (by decide) ?_
    refine lv_iload_n hx hb dX8_leave_33 rfl (lv_at hl 1 rfl) ?_
    refine lv_ishl hx hb dX8_leave_34 ?_
    refine lv_iconst (v := (-1 : Int32)) hx hb dX8_leave_35 (by decide) ?_
    refine lv_ixor hx hb dX8_leave_36 ?_
    refine lv_iand hx hb dX8_leave_37 ?_
    obtain ⟨g6, eg6, ig6, hf⟩ := stIE hf
    refine k_iast hx hb hK hP hD hS 1 0 rfl rfl ig6 eg6 dX8_leave_38 (fun H locs hP hD hS => ?_)
    have hP : va_P D vwCl [(q_t, .inr (8, [.int y4, .ref q_t_book, .ref q_t_now, .ref q_t_does, .ref q_t_bad, .ref q_t_likes, .int t_sights, .ref q_t_sight, .int t_signs, .ref q_t_pad, .ref q_t_then, .int t_worseAt, .int t_worseWho, .int t_hours, .ref q_t_ahead, .int t_reason, .int t_acts, .ref q_t_most, .ref q_t_worth, .ref q_t_damp, .ref q_t_next, .ref q_t_image, .ref q_t_isKept])), (q_t_book, .inl (G 0, 26, .inl g6))] H := hP
    have hD : va_D A [(q_t, .inr (8, [.int y4, .ref q_t_book, .ref q_t_now, .ref q_t_does, .ref q_t_bad, .ref q_t_likes, .int t_sights, .ref q_t_sight, .int t_signs, .ref q_t_pad, .ref q_t_then, .int t_worseAt, .int t_worseWho, .int t_hours, .ref q_t_ahead, .int t_reason, .int t_acts, .ref q_t_most, .ref q_t_worth, .ref q_t_damp, .ref q_t_next, .ref q_t_image, .ref q_t_isKept])), (q_t_book, .inl (G 0, 26, .inl g6))] := hD
    refine lv_aload_n hx hb dX8_leave_39 rfl (lv_at hl 0 rfl) ?_
    refine va_get (D := D) (ci := 8) (v := .int y4) (C := RX8) (T := TX8) (N := 23) hx hb hts inX8 hown hK hP 0 rfl rfl 0 (by decide) (hts _ lfX8_57) (fun _ h9 => h9) rfl dX8_leave_40 ?_
    obtain ⟨r7, h8, hf⟩ := bd1E hf
    refine kO_stat hx hb hml hown hts hK hn hP (kX8_bits l D G fu y4 h8) csX8_69 ⟨Nat.le_of_ble_eq_true rfl, Nat.le_of_ble_eq_true rfl⟩ [] rfl rfl hl.1 rfl (Nat.le_of_ble_eq_true rfl) ⟨Nat.zero_le _, Nat.zero_le _⟩ dX8_leave_43 ?_
    exact RT _ _ _ hf _ _ _ H locs dX8_leave_46 (rkI _) hP hD hS
  · have hf := ifp c3 hf
    refine lv_iconst (v := (-1 : Int32)) hx hb dX8_leave_8 (by decide) ?_
    exact RT _ _ _ hf _ _ _ H locs dX8_leave_9 (rkI _) hP hD hS
set_option maxHeartbeats 4000000 in
set_option maxRecDepth 100000 in
theorem kX8_pairOf (l : Launch) (D : va_G) (G : Nat → ClassId) (v0 : Int32) (v1 : Int32) {r : Int32} (hf : fX8_pairOf v0 v1 = some r) : rO l D G yX8_pairOf cX8_pairOf 2 (some .int) 1 60 [.int v0, .int v1] [] (some (.int r)) := by
  refine rO_of (by decide) (Nat.le_of_ble_eq_true rfl) ?_
  intro p e s m args below meth c Q hx hb hml hown hts hK hn hP RET ls hl
  have RT : ∀ (a0_ : Int32), some a0_ = some r → ∀ (pc : Nat) (ls : Array Slot) (ins : Instr), decode cX8_pairOf pc = .ok (ins, 1) → rk (some .int) (some (.int a0_)) ins → W p l e (kR 1 60) s m args below meth c s.heap [] 0 0 Q (F0 m pc ls [.int a0_]) := by
    intro a0_ hy; obtain rfl := sm1 hy
    exact RET
  have hown : s.vm.findClass RX8 = some m.cls := hown
  have hl : lv_has ls 2 [(0, .int v0), (1, .int v1)] := hl
  clear RET
  rw [fX8_pairOf] at hf
  refine lv_iload_n hx hb dX8_pairOf_0 rfl (lv_at hl 0 rfl) ?_
  refine lv_bipush (v := (11 : Int32)) hx hb dX8_pairOf_1 (by decide) ?_
  refine lv_iload_n hx hb dX8_pairOf_3 rfl (lv_at hl 0 rfl) ?_
  refine lv_isub hx hb dX8_pairOf_4 ?_
  refine lv_imul hx hb dX8_pairOf_5 ?_
  refine lv_iconst (v := (2 : Int32)) hx hb dX8_pairOf_6 (by decide) ?_
  refine lv_idiv hx hb dX8_pairOf_7 (by decide) ?_
  refine lv_iload_n hx hb dX8_pairOf_8 rfl (lv_at hl 1 rfl) ?_
  refine lv_iadd hx hb dX8_pairOf_9 ?_
  refine lv_iload_n hx hb dX8_pairOf_10 rfl (lv_at hl 0 rfl) ?_
  refine lv_isub hx hb dX8_pairOf_11 ?_
  refine lv_iconst (v := (1 : Int32)) hx hb dX8_pairOf_12 (by decide) ?_
  refine lv_isub hx hb dX8_pairOf_13 ?_
  exact RT _ hf _ _ _ dX8_pairOf_14 (rkI _)
set_option maxHeartbeats 4000000 in
set_option maxRecDepth 100000 in
theorem kX8_piece (l : Launch) (D : va_G) (G : Nat → ClassId) (fu : Nat) (q_t q_t_book q_t_now q_t_does q_t_bad q_t_likes q_t_sight q_t_pad q_t_then q_t_ahead q_t_most q_t_worth q_t_damp q_t_next q_t_image q_t_isKept : Nat) (t_there : Int32) (t_sights : Int32) (t_signs : Int32) (t_worseAt : Int32) (t_worseWho : Int32) (t_hours : Int32) (t_reason : Int32) (t_acts : Int32) (t_book : Nat → Int32) (v1 : Int32) (v2 : Int32) (v3 : Int32) (v4 : Int32) {r : Int32} {o_t_there : Int32} {o_t_book : Nat → Int32} (hf : fX8_piece fu t_there t_book v1 v2 v3 v4 = some (r, o_t_there, o_t_book)) : rW l D G yX8_piece cX8_piece 5 (some .int) 2 82 [.ref q_t, .int v1, .int v2, .int v3, .int v4] [(q_t, .inr (8, [.int t_there, .ref q_t_book, .ref q_t_now, .ref q_t_does, .ref q_t_bad, .ref q_t_likes, .int t_sights, .ref q_t_sight, .int t_signs, .ref q_t_pad, .ref q_t_then, .int t_worseAt, .int t_worseWho, .int t_hours, .ref q_t_ahead, .int t_reason, .int t_acts, .ref q_t_most, .ref q_t_worth, .ref q_t_damp, .ref q_t_next, .ref q_t_image, .ref q_t_isKept])), (q_t_book, .inl (G 0, 26, .inl t_book))] [(q_t, .inr (8, [.int o_t_there, .ref q_t_book, .ref q_t_now, .ref q_t_does, .ref q_t_bad, .ref q_t_likes, .int t_sights, .ref q_t_sight, .int t_signs, .ref q_t_pad, .ref q_t_then, .int t_worseAt, .int t_worseWho, .int t_hours, .ref q_t_ahead, .int t_reason, .int t_acts, .ref q_t_most, .ref q_t_worth, .ref q_t_damp, .ref q_t_next, .ref q_t_image, .ref q_t_isKept])), (q_t_book, .inl (G 0, 26, .inl o_t_book))] (some (.int r)) := by
  refine rW_of (by decide) (Nat.le_of_ble_eq_true rfl) ?_
  intro p e s m args below meth c Q A hx hb hml hown hts hK hn hA RET H locs hP hD hS ls hl
  have RT : ∀ (a0_ : Int32) (a1_ : Int32) (a2_ : Nat → Int32), some (a0_, a1_, a2_) = some (r, o_t_there, o_t_book) → ∀ (pc : Nat) (ls : Array Slot) (ins : Instr) (H : Heap) (locs : List Loc), decode cX8_piece pc = .ok (ins, 1) → rk (some .int) (some (.int a0_)) ins → va_P D vwCl [(q_t, .inr (8, [.int a1_, .ref q_t_book, .ref q_t_now, .ref q_t_does, .ref q_t_bad, .ref q_t_likes, .int t_sights, .ref q_t_sight, .int t_signs, .ref q_t_pad, .ref q_t_then, .int t_worseAt, .int t_worseWho, .int t_hours, .ref q_t_ahead, .int t_reason, .int t_acts, .ref q_t_most, .ref q_t_worth, .ref q_t_damp, .ref q_t_next, .ref q_t_image, .ref q_t_isKept])), (q_t_book, .inl (G 0, 26, .inl a2_))] H → va_D A [(q_t, .inr (8, [.int a1_, .ref q_t_book, .ref q_t_now, .ref q_t_does, .ref q_t_bad, .ref q_t_likes, .int t_sights, .ref q_t_sight, .int t_signs, .ref q_t_pad, .ref q_t_then, .int t_worseAt, .int t_worseWho, .int t_hours, .ref q_t_ahead, .int t_reason, .int t_acts, .ref q_t_most, .ref q_t_worth, .ref q_t_damp, .ref q_t_next, .ref q_t_image, .ref q_t_isKept])), (q_t_book, .inl (G 0, 26, .inl a2_))] → va_S A s.heap H locs → W p l e (kR 2 82) s m args below meth c H locs 0 0 Q (F0 m pc ls [.int a0_]) := by
    intro a0_ a1_ a2_ hy; obtain ⟨rfl, rfl, rfl⟩ := sm3 hy
    exact RET
  have hown : s.vm.findClass RX8 = some m.cls := hown
  have hl : lv_has ls 5 [(0, .ref q_t), (1, .int v1), (2, .int v2), (3, .int v3), (4, .int v4)] := hl
  clear RET
  rw [fX8_piece] at hf
  refine lv_iload_n hx hb dX8_piece_0 rfl (lv_at hl 1 rfl) ?_
  refine lv_iconst (v := (0 : Int32)) hx hb dX8_piece_1 (by decide) ?_
  refine lv_iconst (v := (5 : Int32)) hx hb dX8_piece_2 (by decide) ?_
  obtain ⟨r1, h2, hf⟩ := bd1E hf
  refine kO_stat hx hb hml hown hts hK hn hP (kX8_in l D G v1 (0 : Int32) (5 : Int32) h2) csX8_61 ⟨Nat.le_of_ble_eq_true rfl, Nat.le_of_ble_eq_true rfl⟩ [] rfl rfl hl.1 rfl (Nat.le_of_ble_eq_true rfl) ⟨Nat.zero_le _, Nat.zero_le _⟩ dX8_piece_3 ?_
  refine lv_if_ne (tgt := 11) hx hb dX8_piece_6 (by decide) (fun c3 => ?_) (fun c3 => ?_)
  · have hf := ifn c3 hf
    refine lv_iload_n hx hb dX8_piece_11 rfl (lv_at hl 2 rfl) ?_
    refine lv_iconst (v := (0 : Int32)) hx hb dX8_piece_12 (by decide) ?_
    refine lv_bipush (v := (20 : Int32)) hx hb dX8_piece_13 (by decide) ?_
    obtain ⟨r4, h5, hf⟩ := bd1E hf
    refine kO_stat hx hb hml hown hts hK hn hP (kX8_in l D G v2 (0 : Int32) (20 : Int32) h5) csX8_61 ⟨Nat.le_of_ble_eq_true rfl, Nat.le_of_ble_eq_true rfl⟩ [] rfl rfl hl.1 rfl (Nat.le_of_ble_eq_true rfl) ⟨Nat.zero_le _, Nat.zero_le _⟩ dX8_piece_15 ?_
    refine lv_if_eq (tgt := 42) hx hb dX8_piece_18 (by decide) (fun c6 => ?_) (fun c6 => ?_)
    · have hf := ifp c6 hf
      refine lv_bipush (v := (-2 : Int32)) hx hb dX8_piece_42 (by decide) ?_
      exact RT _ _ _ hf _ _ _ H locs dX8_piece_44 (rkI _) hP hD hS
    · have hf := ifn c6 hf
      refine lv_iload_n hx hb dX8_piece_21 rfl (lv_at hl 3 rfl) ?_
      refine lv_iconst (v := (0 : Int32)) hx hb dX8_piece_22 (by decide) ?_
      refine lv_bipush (v := (20 : Int32)) hx hb dX8_piece_23 (by decide) ?_
      obtain ⟨r7, h8, hf⟩ := bd1E hf
      refine kO_stat hx hb hml hown hts hK hn hP (kX8_in l D G v3 (0 : Int32) (20 : Int32) h8) csX8_61 ⟨Nat.le_of_ble_eq_true rfl, Nat.le_of_ble_eq_true rfl⟩ [] rfl rfl hl.1 rfl (Nat.le_of_ble_eq_true rfl) ⟨Nat.zero_le _, Nat.zero_le _⟩ dX8_piece_25 ?_
      refine lv_if_eq (tgt := 42) hx hb dX8_piece_28 (by decide) (fun c9 => ?_) (fun c9 => ?_)
      · have hf := ifp c9 hf
        refine lv_bipush (v := (-2 : Int32)) hx hb dX8_piece_42 (by decide) ?_
        exact RT _ _ _ hf _ _ _ H locs dX8_piece_44 (rkI _) hP hD hS
      · have hf := ifn c9 hf
        refine lv_iload hx hb dX8_piece_31 (lv_at hl 4 rfl) ?_
        refine lv_iconst (v := (0 : Int32)) hx hb dX8_piece_33 (by decide) ?_
        refine lv_bipush (v := (20 : Int32)) hx hb dX8_piece_34 (by decide) ?_
        obtain ⟨r10, h11, hf⟩ := bd1E hf
        refine kO_stat hx hb hml hown hts hK hn hP (kX8_in l D G v4 (0 : Int32) (20 : Int32) h11) csX8_61 ⟨Nat.le_of_ble_eq_true rfl, Nat.le_of_ble_eq_true rfl⟩ [] rfl rfl hl.1 rfl (Nat.le_of_ble_eq_true rfl) ⟨Nat.zero_le _, Nat.zero_le _⟩ dX8_piece_36 ?_
        refine lv_if_ne (tgt := 45) hx hb dX8_piece_39 (by decide) (fun c12 => ?_) (fun c12 => ?_)
        · have hf := ifn c12 hf
          refine lv_aload_n hx hb dX8_piece_45 rfl (lv_at hl 0 rfl) ?_
          refine lv_dup hx hb dX8_piece_46 rfl ?_
          refine va_get (D := D) (ci := 8) (v := .int t_there) (C := RX8) (T := TX8) (N := 23) hx hb hts inX8 hown hK hP 0 rfl rfl 0 (by decide) (hts _ lfX8_57) (fun _ h9 => h9) rfl dX8_piece_47 ?_
          refine lv_iconst (v := (1 : Int32)) hx hb dX8_piece_50 (by decide) ?_
          refine lv_iload_n hx hb dX8_piece_51 rfl (lv_at hl 1 rfl) ?_
          refine lv_ishl hx hb dX8_piece_52 ?_
          refine lv_ior hx hb dX8_piece_53 ?_
          refine lv_topi (fun y13 ey13 => ?_)
          have hf := nmeU ey13 hf
          refine va_put (D := D) (ci := 8) (v := .int y13) (ty := .int) (C := RX8) (T := TX8) (N := 23) hx hb hts inX8 tyX8 tyX8_ok nmX8 hown hK hP hD hS 0 rfl rfl 0 (by decide) (hts _ lfX8_57) (fun _ h9 => h9) rfl (tyX8_ok 0 (by decide)) rfl rfl (Nat.le_of_ble_eq_true rfl) dX8_piece_54 (fun H locs hP hD hS => ?_)
          have hP : va_P D vwCl [(q_t, .inr (8, [.int y13, .ref q_t_book, .ref q_t_now, .ref q_t_does, .ref q_t_bad, .ref q_t_likes, .int t_sights, .ref q_t_sight, .int t_signs, .ref q_t_pad, .ref q_t_then, .int t_worseAt, .int t_worseWho, .int t_hours, .ref q_t_ahead, .int t_reason, .int t_acts, .ref q_t_most, .ref q_t_worth, .ref q_t_damp, .ref q_t_next, .ref q_t_image, .ref q_t_isKept])), (q_t_book, .inl (G 0, 26, .inl t_book))] H := hP
          have hD : va_D A [(q_t, .inr (8, [.int y13, .ref q_t_book, .ref q_t_now, .ref q_t_does, .ref q_t_bad, .ref q_t_likes, .int t_sights, .ref q_t_sight, .int t_signs, .ref q_t_pad, .ref q_t_then, .int t_worseAt, .int t_worseWho, .int t_hours, .ref q_t_ahead, .int t_reason, .int t_acts, .ref q_t_most, .ref q_t_worth, .ref q_t_damp, .ref q_t_next, .ref q_t_image, .ref q_t_isKept])), (q_t_book, .inl (G 0, 26, .inl t_book))] := hD
          refine lv_aload_n hx hb dX8_piece_57 rfl (lv_at hl 0 rfl) ?_
          refine va_get (D := D) (ci := 8) (v := .ref q_t_book) (C := RX8) (T := TX8) (N := 23) hx hb hts inX8 hown hK hP 0 rfl rfl 1 (by decide) (hts _ lfX8_7) (fun _ h9 => h9) rfl dX8_piece_58 ?_
          refine lv_iconst (v := (3 : Int32)) hx hb dX8_piece_61 (by decide) ?_
          refine lv_iload_n hx hb dX8_piece_62 rfl (lv_at hl 1 rfl) ?_
          refine lv_imul hx hb dX8_piece_63 ?_
          refine lv_iload_n hx hb dX8_piece_64 rfl (lv_at hl 2 rfl) ?_
          obtain ⟨g14, eg14, ig14, hf⟩ := stIE hf
          refine k_iast hx hb hK hP hD hS 1 0 rfl rfl ig14 eg14 dX8_piece_65 (fun H locs hP hD hS => ?_)
          have hP : va_P D vwCl [(q_t, .inr (8, [.int y13, .ref q_t_book, .ref q_t_now, .ref q_t_does, .ref q_t_bad, .ref q_t_likes, .int t_sights, .ref q_t_sight, .int t_signs, .ref q_t_pad, .ref q_t_then, .int t_worseAt, .int t_worseWho, .int t_hours, .ref q_t_ahead, .int t_reason, .int t_acts, .ref q_t_most, .ref q_t_worth, .ref q_t_damp, .ref q_t_next, .ref q_t_image, .ref q_t_isKept])), (q_t_book, .inl (G 0, 26, .inl g14))] H := hP
          have hD : va_D A [(q_t, .inr (8, [.int y13, .ref q_t_book, .ref q_t_now, .ref q_t_does, .ref q_t_bad, .ref q_t_likes, .int t_sights, .ref q_t_sight, .int t_signs, .ref q_t_pad, .ref q_t_then, .int t_worseAt, .int t_worseWho, .int t_hours, .ref q_t_ahead, .int t_reason, .int t_acts, .ref q_t_most, .ref q_t_worth, .ref q_t_damp, .ref q_t_next, .ref q_t_image, .ref q_t_isKept])), (q_t_book, .inl (G 0, 26, .inl g14))] := hD
          refine lv_aload_n hx hb dX8_piece_66 rfl (lv_at hl 0 rfl) ?_
          refine va_get (D := D) (ci := 8) (v := .ref q_t_book) (C := RX8) (T := TX8) (N := 23) hx hb hts inX8 hown hK hP 0 rfl rfl 1 (by decide) (hts _ lfX8_7) (fun _ h9 => h9) rfl dX8_piece_67 ?_
          refine lv_iconst (v := (3 : Int32)) hx hb dX8_piece_70 (by decide) ?_
          refine lv_iload_n hx hb dX8_piece_71 rfl (lv_at hl 1 rfl) ?_
          refine lv_imul hx hb dX8_piece_72 ?_
          refine lv_iconst (v := (1 : Int32)) hx hb dX8_piece_73 (by decide) ?_
          refine lv_iadd hx hb dX8_piece_74 ?_
          refine lv_iload_n hx hb dX8_piece_75 rfl (lv_at hl 3 rfl) ?_
          obtain ⟨g15, eg15, ig15, hf⟩ := stIE hf
          refine k_iast hx hb hK hP hD hS 1 0 rfl rfl ig15 eg15 dX8_piece_76 (fun H locs hP hD hS => ?_)
          have hP : va_P D vwCl [(q_t, .inr (8, [.int y13, .ref q_t_book, .ref q_t_now, .ref q_t_does, .ref q_t_bad, .ref q_t_likes, .int t_sights, .ref q_t_sight, .int t_signs, .ref q_t_pad, .ref q_t_then, .int t_worseAt, .int t_worseWho, .int t_hours, .ref q_t_ahead, .int t_reason, .int t_acts, .ref q_t_most, .ref q_t_worth, .ref q_t_damp, .ref q_t_next, .ref q_t_image, .ref q_t_isKept])), (q_t_book, .inl (G 0, 26, .inl g15))] H := hP
          have hD : va_D A [(q_t, .inr (8, [.int y13, .ref q_t_book, .ref q_t_now, .ref q_t_does, .ref q_t_bad, .ref q_t_likes, .int t_sights, .ref q_t_sight, .int t_signs, .ref q_t_pad, .ref q_t_then, .int t_worseAt, .int t_worseWho, .int t_hours, .ref q_t_ahead, .int t_reason, .int t_acts, .ref q_t_most, .ref q_t_worth, .ref q_t_damp, .ref q_t_next, .ref q_t_image, .ref q_t_isKept])), (q_t_book, .inl (G 0, 26, .inl g15))] := hD
          refine lv_aload_n hx hb dX8_piece_77 rfl (lv_at hl 0 rfl) ?_
          refine va_get (D := D) (ci := 8) (v := .ref q_t_book) (C := RX8) (T := TX8) (N := 23) hx hb hts inX8 hown hK hP 0 rfl rfl 1 (by decide) (hts _ lfX8_7) (fun _ h9 => h9) rfl dX8_piece_78 ?_
          refine lv_iconst (v := (3 : Int32)) hx hb dX8_piece_81 (by decide) ?_
          refine lv_iload_n hx hb dX8_piece_82 rfl (lv_at hl 1 rfl) ?_
          refine lv_imul hx hb dX8_piece_83 ?_
          refine lv_iconst (v := (2 : Int32)) hx hb dX8_piece_84 (by decide) ?_
          refine lv_iadd hx hb dX8_piece_85 ?_
          refine lv_iload hx hb dX8_piece_86 (lv_at hl 4 rfl) ?_
          obtain ⟨g16, eg16, ig16, hf⟩ := stIE hf
          refine k_iast hx hb hK hP hD hS 1 0 rfl rfl ig16 eg16 dX8_piece_88 (fun H locs hP hD hS => ?_)
          have hP : va_P D vwCl [(q_t, .inr (8, [.int y13, .ref q_t_book, .ref q_t_now, .ref q_t_does, .ref q_t_bad, .ref q_t_likes, .int t_sights, .ref q_t_sight, .int t_signs, .ref q_t_pad, .ref q_t_then, .int t_worseAt, .int t_worseWho, .int t_hours, .ref q_t_ahead, .int t_reason, .int t_acts, .ref q_t_most, .ref q_t_worth, .ref q_t_damp, .ref q_t_next, .ref q_t_image, .ref q_t_isKept])), (q_t_book, .inl (G 0, 26, .inl g16))] H := hP
          have hD : va_D A [(q_t, .inr (8, [.int y13, .ref q_t_book, .ref q_t_now, .ref q_t_does, .ref q_t_bad, .ref q_t_likes, .int t_sights, .ref q_t_sight, .int t_signs, .ref q_t_pad, .ref q_t_then, .int t_worseAt, .int t_worseWho, .int t_hours, .ref q_t_ahead, .int t_reason, .int t_acts, .ref q_t_most, .ref q_t_worth, .ref q_t_damp, .ref q_t_next, .ref q_t_image, .ref q_t_isKept])), (q_t_book, .inl (G 0, 26, .inl g16))] := hD
          refine lv_aload_n hx hb dX8_piece_89 rfl (lv_at hl 0 rfl) ?_
          refine va_get (D := D) (ci := 8) (v := .ref q_t_book) (C := RX8) (T := TX8) (N := 23) hx hb hts inX8 hown hK hP 0 rfl rfl 1 (by decide) (hts _ lfX8_7) (fun _ h9 => h9) rfl dX8_piece_90 ?_
          refine lv_bipush (v := (18 : Int32)) hx hb dX8_piece_93 (by decide) ?_
          refine lv_iload_n hx hb dX8_piece_95 rfl (lv_at hl 1 rfl) ?_
          refine lv_iadd hx hb dX8_piece_96 ?_
          refine lv_iconst (v := (0 : Int32)) hx hb dX8_piece_97 (by decide) ?_
          obtain ⟨g17, eg17, ig17, hf⟩ := stIE hf
          refine k_iast hx hb hK hP hD hS 1 0 rfl rfl ig17 eg17 dX8_piece_98 (fun H locs hP hD hS => ?_)
          have hP : va_P D vwCl [(q_t, .inr (8, [.int y13, .ref q_t_book, .ref q_t_now, .ref q_t_does, .ref q_t_bad, .ref q_t_likes, .int t_sights, .ref q_t_sight, .int t_signs, .ref q_t_pad, .ref q_t_then, .int t_worseAt, .int t_worseWho, .int t_hours, .ref q_t_ahead, .int t_reason, .int t_acts, .ref q_t_most, .ref q_t_worth, .ref q_t_damp, .ref q_t_next, .ref q_t_image, .ref q_t_isKept])), (q_t_book, .inl (G 0, 26, .inl g17))] H := hP
          have hD : va_D A [(q_t, .inr (8, [.int y13, .ref q_t_book, .ref q_t_now, .ref q_t_does, .ref q_t_bad, .ref q_t_likes, .int t_sights, .ref q_t_sight, .int t_signs, .ref q_t_pad, .ref q_t_then, .int t_worseAt, .int t_worseWho, .int t_hours, .ref q_t_ahead, .int t_reason, .int t_acts, .ref q_t_most, .ref q_t_worth, .ref q_t_damp, .ref q_t_next, .ref q_t_image, .ref q_t_isKept])), (q_t_book, .inl (G 0, 26, .inl g17))] := hD
          refine lv_aload_n hx hb dX8_piece_99 rfl (lv_at hl 0 rfl) ?_
          refine va_get (D := D) (ci := 8) (v := .ref q_t_book) (C := RX8) (T := TX8) (N := 23) hx hb hts inX8 hown hK hP 0 rfl rfl 1 (by decide) (hts _ lfX8_7) (fun _ h9 => h9) rfl dX8_piece_100 ?_
          refine lv_bipush (v := (24 : Int32)) hx hb dX8_piece_103 (by decide) ?_
          refine lv_dup2_11 hx hb dX8_piece_105 rfl rfl ?_
          obtain ⟨x18, ex18, ix18, hf⟩ := ldIE hf
          refine k_iald hx hb hK hP 1 0 rfl rfl ix18 ex18 dX8_piece_106 ?_
          refine lv_iconst (v := (1 : Int32)) hx hb dX8_piece_107 (by decide) ?_
          refine lv_iload_n hx hb dX8_piece_108 rfl (lv_at hl 1 rfl) ?_
          refine lv_ishl hx hb dX8_piece_109 ?_
          refine lv_iconst (v := (-1 : Int32)) hx hb dX8_piece_110 (by decide) ?_
          refine lv_ixor hx hb dX8_piece_111 ?_
          refine lv_iand hx hb dX8_piece_112 ?_
          obtain ⟨g19, eg19, ig19, hf⟩ := stIE hf
          refine k_iast hx hb hK hP hD hS 1 0 rfl rfl ig19 eg19 dX8_piece_113 (fun H locs hP hD hS => ?_)
          have hP : va_P D vwCl [(q_t, .inr (8, [.int y13, .ref q_t_book, .ref q_t_now, .ref q_t_does, .ref q_t_bad, .ref q_t_likes, .int t_sights, .ref q_t_sight, .int t_signs, .ref q_t_pad, .ref q_t_then, .int t_worseAt, .int t_worseWho, .int t_hours, .ref q_t_ahead, .int t_reason, .int t_acts, .ref q_t_most, .ref q_t_worth, .ref q_t_damp, .ref q_t_next, .ref q_t_image, .ref q_t_isKept])), (q_t_book, .inl (G 0, 26, .inl g19))] H := hP
          have hD : va_D A [(q_t, .inr (8, [.int y13, .ref q_t_book, .ref q_t_now, .ref q_t_does, .ref q_t_bad, .ref q_t_likes, .int t_sights, .ref q_t_sight, .int t_signs, .ref q_t_pad, .ref q_t_then, .int t_worseAt, .int t_worseWho, .int t_hours, .ref q_t_ahead, .int t_reason, .int t_acts, .ref q_t_most, .ref q_t_worth, .ref q_t_damp, .ref q_t_next, .ref q_t_image, .ref q_t_isKept])), (q_t_book, .inl (G 0, 26, .inl g19))] := hD
          refine lv_aload_n hx hb dX8_piece_114 rfl (lv_at hl 0 rfl) ?_
          refine va_get (D := D) (ci := 8) (v := .int y13) (C := RX8) (T := TX8) (N := 23) hx hb hts inX8 hown hK hP 0 rfl rfl 0 (by decide) (hts _ lfX8_57) (fun _ h9 => h9) rfl dX8_piece_115 ?_
          obtain ⟨r20, h21, hf⟩ := bd1E hf
          refine kO_stat hx hb hml hown hts hK hn hP (kX8_bits l D G fu y13 h21) csX8_69 ⟨Nat.le_of_ble_eq_true rfl, Nat.le_of_ble_eq_true rfl⟩ [] rfl rfl hl.1 rfl (Nat.le_of_ble_eq_true rfl) ⟨Nat.zero_le _, Nat.zero_le _⟩ dX8_piece_118 ?_
          exact RT _ _ _ hf _ _ _ H locs dX8_piece_121 (rkI _) hP hD hS
        · have hf := ifp c12 hf
          refine lv_bipush (v := (-2 : Int32)) hx hb dX8_piece_42 (by decide) ?_
          exact RT _ _ _ hf _ _ _ H locs dX8_piece_44 (rkI _) hP hD hS
  · have hf := ifp c3 hf
    refine lv_iconst (v := (-1 : Int32)) hx hb dX8_piece_9 (by decide) ?_
    exact RT _ _ _ hf _ _ _ H locs dX8_piece_10 (rkI _) hP hD hS
set_option maxHeartbeats 4000000 in
set_option maxRecDepth 100000 in
theorem kX8_restore (l : Launch) (D : va_G) (G : Nat → ClassId) (fu : Nat) (q_t q_t_book q_t_now q_t_does q_t_bad q_t_likes q_t_sight q_t_pad q_t_then q_t_ahead q_t_most q_t_worth q_t_damp q_t_next q_t_image q_t_isKept : Nat) (t_there : Int32) (t_sights : Int32) (t_signs : Int32) (t_worseAt : Int32) (t_worseWho : Int32) (t_hours : Int32) (t_reason : Int32) (t_acts : Int32) (t_book : Nat → Int32) (t_does : Nat → Int32) (t_bad : Nat → Int32) (t_likes : Nat → Int32) (t_sight : Nat → Int32) (t_image : Nat → Int32) (t_isKept : Nat → Int32) (v1 : Int32) {r : Int32} {o_t_there : Int32} {o_t_sights : Int32} {o_t_book : Nat → Int32} {o_t_does : Nat → Int32} {o_t_bad : Nat → Int32} {o_t_likes : Nat → Int32} {o_t_sight : Nat → Int32} (hf : fX8_restore fu t_there t_sights t_book t_does t_bad t_likes t_sight t_image t_isKept v1 = some (r, o_t_there, o_t_sights, o_t_book, o_t_does, o_t_bad, o_t_likes, o_t_sight)) : rW l D G yX8_restore cX8_restore 4 (some .int) 2 82 [.ref q_t, .int v1] [(q_t, .inr (8, [.int t_there, .ref q_t_book, .ref q_t_now, .ref q_t_does, .ref q_t_bad, .ref q_t_likes, .int t_sights, .ref q_t_sight, .int t_signs, .ref q_t_pad, .ref q_t_then, .int t_worseAt, .int t_worseWho, .int t_hours, .ref q_t_ahead, .int t_reason, .int t_acts, .ref q_t_most, .ref q_t_worth, .ref q_t_damp, .ref q_t_next, .ref q_t_image, .ref q_t_isKept])), (q_t_book, .inl (G 0, 26, .inl t_book)), (q_t_does, .inl (G 0, 12, .inl t_does)), (q_t_bad, .inl (G 0, 36, .inl t_bad)), (q_t_likes, .inl (G 0, 6, .inl t_likes)), (q_t_sight, .inl (G 0, 24, .inl t_sight)), (q_t_image, .inl (G 0, 240, .inl t_image)), (q_t_isKept, .inl (G 2, 2, .inl t_isKept))] [(q_t, .inr (8, [.int o_t_there, .ref q_t_book, .ref q_t_now, .ref q_t_does, .ref q_t_bad, .ref q_t_likes, .int o_t_sights, .ref q_t_sight, .int t_signs, .ref q_t_pad, .ref q_t_then, .int t_worseAt, .int t_worseWho, .int t_hours, .ref q_t_ahead, .int t_reason, .int t_acts, .ref q_t_most, .ref q_t_worth, .ref q_t_damp, .ref q_t_next, .ref q_t_image, .ref q_t_isKept])), (q_t_book, .inl (G 0, 26, .inl o_t_book)), (q_t_does, .inl (G 0, 12, .inl o_t_does)), (q_t_bad, .inl (G 0, 36, .inl o_t_bad)), (q_t_likes, .inl (G 0, 6, .inl o_t_likes)), (q_t_sight, .inl (G 0, 24, .inl o_t_sight)), (q_t_image, .inl (G 0, 240, .inl t_image)), (q_t_isKept, .inl (G 2, 2, .inl t_isKept))] (some (.int r)) := by
  refine rW_of (by decide) (Nat.le_of_ble_eq_true rfl) ?_
  intro p e s m args below meth c Q A hx hb hml hown hts hK hn hA RET H locs hP hD hS ls hl
  have RT : ∀ (a0_ : Int32) (a1_ : Int32) (a2_ : Int32) (a3_ : Nat → Int32) (a4_ : Nat → Int32) (a5_ : Nat → Int32) (a6_ : Nat → Int32) (a7_ : Nat → Int32), some (a0_, a1_, a2_, a3_, a4_, a5_, a6_, a7_) = some (r, o_t_there, o_t_sights, o_t_book, o_t_does, o_t_bad, o_t_likes, o_t_sight) → ∀ (pc : Nat) (ls : Array Slot) (ins : Instr) (H : Heap) (locs : List Loc), decode cX8_restore pc = .ok (ins, 1) → rk (some .int) (some (.int a0_)) ins → va_P D vwCl [(q_t, .inr (8, [.int a1_, .ref q_t_book, .ref q_t_now, .ref q_t_does, .ref q_t_bad, .ref q_t_likes, .int a2_, .ref q_t_sight, .int t_signs, .ref q_t_pad, .ref q_t_then, .int t_worseAt, .int t_worseWho, .int t_hours, .ref q_t_ahead, .int t_reason, .int t_acts, .ref q_t_most, .ref q_t_worth, .ref q_t_damp, .ref q_t_next, .ref q_t_image, .ref q_t_isKept])), (q_t_book, .inl (G 0, 26, .inl a3_)), (q_t_does, .inl (G 0, 12, .inl a4_)), (q_t_bad, .inl (G 0, 36, .inl a5_)), (q_t_likes, .inl (G 0, 6, .inl a6_)), (q_t_sight, .inl (G 0, 24, .inl a7_)), (q_t_image, .inl (G 0, 240, .inl t_image)), (q_t_isKept, .inl (G 2, 2, .inl t_isKept))] H → va_D A [(q_t, .inr (8, [.int a1_, .ref q_t_book, .ref q_t_now, .ref q_t_does, .ref q_t_bad, .ref q_t_likes, .int a2_, .ref q_t_sight, .int t_signs, .ref q_t_pad, .ref q_t_then, .int t_worseAt, .int t_worseWho, .int t_hours, .ref q_t_ahead, .int t_reason, .int t_acts, .ref q_t_most, .ref q_t_worth, .ref q_t_damp, .ref q_t_next, .ref q_t_image, .ref q_t_isKept])), (q_t_book, .inl (G 0, 26, .inl a3_)), (q_t_does, .inl (G 0, 12, .inl a4_)), (q_t_bad, .inl (G 0, 36, .inl a5_)), (q_t_likes, .inl (G 0, 6, .inl a6_)), (q_t_sight, .inl (G 0, 24, .inl a7_)), (q_t_image, .inl (G 0, 240, .inl t_image)), (q_t_isKept, .inl (G 2, 2, .inl t_isKept))] → va_S A s.heap H locs → W p l e (kR 2 82) s m args below meth c H locs 0 0 Q (F0 m pc ls [.int a0_]) := by
    intro a0_ a1_ a2_ a3_ a4_ a5_ a6_ a7_ hy; obtain ⟨rfl, rfl, rfl, rfl, rfl, rfl, rfl, rfl⟩ := sm8 hy
    exact RET
  have hown : s.vm.findClass RX8 = some m.cls := hown
  have hl : lv_has ls 4 [(0, .ref q_t), (1, .int v1)] := hl
  clear RET
  rw [fX8_restore] at hf
  refine lv_iload_n hx hb dX8_restore_0 rfl (lv_at hl 1 rfl) ?_
  refine lv_iconst (v := (0 : Int32)) hx hb dX8_restore_1 (by decide) ?_
  refine lv_iconst (v := (1 : Int32)) hx hb dX8_restore_2 (by decide) ?_
  obtain ⟨r1, h2, hf⟩ := bd1E hf
  refine kO_stat hx hb hml hown hts hK hn hP (kX8_in l D G v1 (0 : Int32) (1 : Int32) h2) csX8_61 ⟨Nat.le_of_ble_eq_true rfl, Nat.le_of_ble_eq_true rfl⟩ [] rfl rfl hl.1 rfl (Nat.le_of_ble_eq_true rfl) ⟨Nat.zero_le _, Nat.zero_le _⟩ dX8_restore_3 ?_
  refine lv_if_ne (tgt := 12) hx hb dX8_restore_6 (by decide) (fun c3 => ?_) (fun c3 => ?_)
  · have hf := ifn c3 hf
    refine lv_aload_n hx hb dX8_restore_12 rfl (lv_at hl 0 rfl) ?_
    refine va_get (D := D) (ci := 8) (v := .ref q_t_isKept) (C := RX8) (T := TX8) (N := 23) hx hb hts inX8 hown hK hP 0 rfl rfl 22 (by decide) (hts _ lfX8_53) (fun _ h9 => h9) rfl dX8_restore_13 ?_
    refine lv_iload_n hx hb dX8_restore_16 rfl (lv_at hl 1 rfl) ?_
    obtain ⟨x4, ex4, ix4, hf⟩ := ldIE hf
    refine k_zald hx hb hK hP 7 2 rfl rfl ix4 ex4 dX8_restore_17 ?_
    refine lv_if_ne (tgt := 24) hx hb dX8_restore_18 (by decide) (fun c5 => ?_) (fun c5 => ?_)
    · have hf := ifn c5 hf
      refine lv_bipush (v := (120 : Int32)) hx hb dX8_restore_24 (by decide) ?_
      refine lv_iload_n hx hb dX8_restore_26 rfl (lv_at hl 1 rfl) ?_
      refine lv_imul hx hb dX8_restore_27 ?_
      refine lv_topi (fun y6 ey6 => ?_)
      have hf := nmeU ey6 hf
      refine lv_istore_n (lv' := [(2, .int y6), (0, .ref q_t), (1, .int v1)]) hx hb dX8_restore_28 rfl hl (by decide) rfl (fun ls hl => ?_)
      refine lv_iconst (v := (0 : Int32)) hx hb dX8_restore_29 (by decide) ?_
      refine lv_istore_n (lv' := [(3, .int (0 : Int32)), (2, .int y6), (0, .ref q_t), (1, .int v1)]) hx hb dX8_restore_30 rfl hl (by decide) rfl (fun ls hl => ?_)
      obtain ⟨u30, h34, hf⟩ := bd1E hf
      have E31 : ∀ (z41 : Nat → Int32), some z41 = some u30 → ∀ (H : Heap) (locs : List Loc), va_P D vwCl [(q_t, .inr (8, [.int t_there, .ref q_t_book, .ref q_t_now, .ref q_t_does, .ref q_t_bad, .ref q_t_likes, .int t_sights, .ref q_t_sight, .int t_signs, .ref q_t_pad, .ref q_t_then, .int t_worseAt, .int t_worseWho, .int t_hours, .ref q_t_ahead, .int t_reason, .int t_acts, .ref q_t_most, .ref q_t_worth, .ref q_t_damp, .ref q_t_next, .ref q_t_image, .ref q_t_isKept])), (q_t_book, .inl (G 0, 26, .inl z41)), (q_t_does, .inl (G 0, 12, .inl t_does)), (q_t_bad, .inl (G 0, 36, .inl t_bad)), (q_t_likes, .inl (G 0, 6, .inl t_likes)), (q_t_sight, .inl (G 0, 24, .inl t_sight)), (q_t_image, .inl (G 0, 240, .inl t_image)), (q_t_isKept, .inl (G 2, 2, .inl t_isKept))] H → va_D A [(q_t, .inr (8, [.int t_there, .ref q_t_book, .ref q_t_now, .ref q_t_does, .ref q_t_bad, .ref q_t_likes, .int t_sights, .ref q_t_sight, .int t_signs, .ref q_t_pad, .ref q_t_then, .int t_worseAt, .int t_worseWho, .int t_hours, .ref q_t_ahead, .int t_reason, .int t_acts, .ref q_t_most, .ref q_t_worth, .ref q_t_damp, .ref q_t_next, .ref q_t_image, .ref q_t_isKept])), (q_t_book, .inl (G 0, 26, .inl z41)), (q_t_does, .inl (G 0, 12, .inl t_does)), (q_t_bad, .inl (G 0, 36, .inl t_bad)), (q_t_likes, .inl (G 0, 6, .inl t_likes)), (q_t_sight, .inl (G 0, 24, .inl t_sight)), (q_t_image, .inl (G 0, 240, .inl t_image)), (q_t_isKept, .inl (G 2, 2, .inl t_isKept))] → va_S A s.heap H locs → ∀ ls : Array Slot, lv_has ls 4 [(0, .ref q_t), (2, .int y6)] → W p l e (kR 2 82) s m args below meth c H locs 0 0 Q (F0 m 57 ls []) := by
        intro z41 hy; obtain rfl := sm1 hy
        intro H locs hP hD hS ls hl
        refine lv_iconst (v := (0 : Int32)) hx hb dX8_restore_57 (by decide) ?_
        refine lv_istore_n (lv' := [(3, .int (0 : Int32)), (0, .ref q_t), (2, .int y6)]) hx hb dX8_restore_58 rfl hl (by decide) rfl (fun ls hl => ?_)
        obtain ⟨u65, h69, hf⟩ := bd1E hf
        have E66 : ∀ (z76 : Nat → Int32), some z76 = some u65 → ∀ (H : Heap) (locs : List Loc), va_P D vwCl [(q_t, .inr (8, [.int t_there, .ref q_t_book, .ref q_t_now, .ref q_t_does, .ref q_t_bad, .ref q_t_likes, .int t_sights, .ref q_t_sight, .int t_signs, .ref q_t_pad, .ref q_t_then, .int t_worseAt, .int t_worseWho, .int t_hours, .ref q_t_ahead, .int t_reason, .int t_acts, .ref q_t_most, .ref q_t_worth, .ref q_t_damp, .ref q_t_next, .ref q_t_image, .ref q_t_isKept])), (q_t_book, .inl (G 0, 26, .inl z41)), (q_t_does, .inl (G 0, 12, .inl z76)), (q_t_bad, .inl (G 0, 36, .inl t_bad)), (q_t_likes, .inl (G 0, 6, .inl t_likes)), (q_t_sight, .inl (G 0, 24, .inl t_sight)), (q_t_image, .inl (G 0, 240, .inl t_image)), (q_t_isKept, .inl (G 2, 2, .inl t_isKept))] H → va_D A [(q_t, .inr (8, [.int t_there, .ref q_t_book, .ref q_t_now, .ref q_t_does, .ref q_t_bad, .ref q_t_likes, .int t_sights, .ref q_t_sight, .int t_signs, .ref q_t_pad, .ref q_t_then, .int t_worseAt, .int t_worseWho, .int t_hours, .ref q_t_ahead, .int t_reason, .int t_acts, .ref q_t_most, .ref q_t_worth, .ref q_t_damp, .ref q_t_next, .ref q_t_image, .ref q_t_isKept])), (q_t_book, .inl (G 0, 26, .inl z41)), (q_t_does, .inl (G 0, 12, .inl z76)), (q_t_bad, .inl (G 0, 36, .inl t_bad)), (q_t_likes, .inl (G 0, 6, .inl t_likes)), (q_t_sight, .inl (G 0, 24, .inl t_sight)), (q_t_image, .inl (G 0, 240, .inl t_image)), (q_t_isKept, .inl (G 2, 2, .inl t_isKept))] → va_S A s.heap H locs → ∀ ls : Array Slot, lv_has ls 4 [(0, .ref q_t), (2, .int y6)] → W p l e (kR 2 82) s m args below meth c H locs 0 0 Q (F0 m 88 ls []) := by
          intro z76 hy; obtain rfl := sm1 hy
          intro H locs hP hD hS ls hl
          refine lv_iconst (v := (0 : Int32)) hx hb dX8_restore_88 (by decide) ?_
          refine lv_istore_n (lv' := [(3, .int (0 : Int32)), (0, .ref q_t), (2, .int y6)]) hx hb dX8_restore_89 rfl hl (by decide) rfl (fun ls hl => ?_)
          obtain ⟨u100, h104, hf⟩ := bd1E hf
          have E101 : ∀ (z111 : Nat → Int32), some z111 = some u100 → ∀ (H : Heap) (locs : List Loc), va_P D vwCl [(q_t, .inr (8, [.int t_there, .ref q_t_book, .ref q_t_now, .ref q_t_does, .ref q_t_bad, .ref q_t_likes, .int t_sights, .ref q_t_sight, .int t_signs, .ref q_t_pad, .ref q_t_then, .int t_worseAt, .int t_worseWho, .int t_hours, .ref q_t_ahead, .int t_reason, .int t_acts, .ref q_t_most, .ref q_t_worth, .ref q_t_damp, .ref q_t_next, .ref q_t_image, .ref q_t_isKept])), (q_t_book, .inl (G 0, 26, .inl z41)), (q_t_does, .inl (G 0, 12, .inl z76)), (q_t_bad, .inl (G 0, 36, .inl z111)), (q_t_likes, .inl (G 0, 6, .inl t_likes)), (q_t_sight, .inl (G 0, 24, .inl t_sight)), (q_t_image, .inl (G 0, 240, .inl t_image)), (q_t_isKept, .inl (G 2, 2, .inl t_isKept))] H → va_D A [(q_t, .inr (8, [.int t_there, .ref q_t_book, .ref q_t_now, .ref q_t_does, .ref q_t_bad, .ref q_t_likes, .int t_sights, .ref q_t_sight, .int t_signs, .ref q_t_pad, .ref q_t_then, .int t_worseAt, .int t_worseWho, .int t_hours, .ref q_t_ahead, .int t_reason, .int t_acts, .ref q_t_most, .ref q_t_worth, .ref q_t_damp, .ref q_t_next, .ref q_t_image, .ref q_t_isKept])), (q_t_book, .inl (G 0, 26, .inl z41)), (q_t_does, .inl (G 0, 12, .inl z76)), (q_t_bad, .inl (G 0, 36, .inl z111)), (q_t_likes, .inl (G 0, 6, .inl t_likes)), (q_t_sight, .inl (G 0, 24, .inl t_sight)), (q_t_image, .inl (G 0, 240, .inl t_image)), (q_t_isKept, .inl (G 2, 2, .inl t_isKept))] → va_S A s.heap H locs → ∀ ls : Array Slot, lv_has ls 4 [(0, .ref q_t), (2, .int y6)] → W p l e (kR 2 82) s m args below meth c H locs 0 0 Q (F0 m 119 ls []) := by
            intro z111 hy; obtain rfl := sm1 hy
            intro H locs hP hD hS ls hl
            refine lv_iconst (v := (0 : Int32)) hx hb dX8_restore_119 (by decide) ?_
            refine lv_istore_n (lv' := [(3, .int (0 : Int32)), (0, .ref q_t), (2, .int y6)]) hx hb dX8_restore_120 rfl hl (by decide) rfl (fun ls hl => ?_)
            obtain ⟨u135, h139, hf⟩ := bd1E hf
            have E136 : ∀ (z146 : Nat → Int32), some z146 = some u135 → ∀ (H : Heap) (locs : List Loc), va_P D vwCl [(q_t, .inr (8, [.int t_there, .ref q_t_book, .ref q_t_now, .ref q_t_does, .ref q_t_bad, .ref q_t_likes, .int t_sights, .ref q_t_sight, .int t_signs, .ref q_t_pad, .ref q_t_then, .int t_worseAt, .int t_worseWho, .int t_hours, .ref q_t_ahead, .int t_reason, .int t_acts, .ref q_t_most, .ref q_t_worth, .ref q_t_damp, .ref q_t_next, .ref q_t_image, .ref q_t_isKept])), (q_t_book, .inl (G 0, 26, .inl z41)), (q_t_does, .inl (G 0, 12, .inl z76)), (q_t_bad, .inl (G 0, 36, .inl z111)), (q_t_likes, .inl (G 0, 6, .inl z146)), (q_t_sight, .inl (G 0, 24, .inl t_sight)), (q_t_image, .inl (G 0, 240, .inl t_image)), (q_t_isKept, .inl (G 2, 2, .inl t_isKept))] H → va_D A [(q_t, .inr (8, [.int t_there, .ref q_t_book, .ref q_t_now, .ref q_t_does, .ref q_t_bad, .ref q_t_likes, .int t_sights, .ref q_t_sight, .int t_signs, .ref q_t_pad, .ref q_t_then, .int t_worseAt, .int t_worseWho, .int t_hours, .ref q_t_ahead, .int t_reason, .int t_acts, .ref q_t_most, .ref q_t_worth, .ref q_t_damp, .ref q_t_next, .ref q_t_image, .ref q_t_isKept])), (q_t_book, .inl (G 0, 26, .inl z41)), (q_t_does, .inl (G 0, 12, .inl z76)), (q_t_bad, .inl (G 0, 36, .inl z111)), (q_t_likes, .inl (G 0, 6, .inl z146)), (q_t_sight, .inl (G 0, 24, .inl t_sight)), (q_t_image, .inl (G 0, 240, .inl t_image)), (q_t_isKept, .inl (G 2, 2, .inl t_isKept))] → va_S A s.heap H locs → ∀ ls : Array Slot, lv_has ls 4 [(0, .ref q_t), (2, .int y6)] → W p l e (kR 2 82) s m args below meth c H locs 0 0 Q (F0 m 150 ls []) := by
              intro z146 hy; obtain rfl := sm1 hy
              intro H locs hP hD hS ls hl
              refine lv_iconst (v := (0 : Int32)) hx hb dX8_restore_150 (by decide) ?_
              refine lv_istore_n (lv' := [(3, .int (0 : Int32)), (0, .ref q_t), (2, .int y6)]) hx hb dX8_restore_151 rfl hl (by decide) rfl (fun ls hl => ?_)
              obtain ⟨u170, h174, hf⟩ := bd1E hf
              have E171 : ∀ (z181 : Nat → Int32), some z181 = some u170 → ∀ (H : Heap) (locs : List Loc), va_P D vwCl [(q_t, .inr (8, [.int t_there, .ref q_t_book, .ref q_t_now, .ref q_t_does, .ref q_t_bad, .ref q_t_likes, .int t_sights, .ref q_t_sight, .int t_signs, .ref q_t_pad, .ref q_t_then, .int t_worseAt, .int t_worseWho, .int t_hours, .ref q_t_ahead, .int t_reason, .int t_acts, .ref q_t_most, .ref q_t_worth, .ref q_t_damp, .ref q_t_next, .ref q_t_image, .ref q_t_isKept])), (q_t_book, .inl (G 0, 26, .inl z41)), (q_t_does, .inl (G 0, 12, .inl z76)), (q_t_bad, .inl (G 0, 36, .inl z111)), (q_t_likes, .inl (G 0, 6, .inl z146)), (q_t_sight, .inl (G 0, 24, .inl z181)), (q_t_image, .inl (G 0, 240, .inl t_image)), (q_t_isKept, .inl (G 2, 2, .inl t_isKept))] H → va_D A [(q_t, .inr (8, [.int t_there, .ref q_t_book, .ref q_t_now, .ref q_t_does, .ref q_t_bad, .ref q_t_likes, .int t_sights, .ref q_t_sight, .int t_signs, .ref q_t_pad, .ref q_t_then, .int t_worseAt, .int t_worseWho, .int t_hours, .ref q_t_ahead, .int t_reason, .int t_acts, .ref q_t_most, .ref q_t_worth, .ref q_t_damp, .ref q_t_next, .ref q_t_image, .ref q_t_isKept])), (q_t_book, .inl (G 0, 26, .inl z41)), (q_t_does, .inl (G 0, 12, .inl z76)), (q_t_bad, .inl (G 0, 36, .inl z111)), (q_t_likes, .inl (G 0, 6, .inl z146)), (q_t_sight, .inl (G 0, 24, .inl z181)), (q_t_image, .inl (G 0, 240, .inl t_image)), (q_t_isKept, .inl (G 2, 2, .inl t_isKept))] → va_S A s.heap H locs → ∀ ls : Array Slot, lv_has ls 4 [(0, .ref q_t), (2, .int y6)] → W p l e (kR 2 82) s m args below meth c H locs 0 0 Q (F0 m 181 ls []) := by
                intro z181 hy; obtain rfl := sm1 hy
                intro H locs hP hD hS ls hl
                refine lv_aload_n hx hb dX8_restore_181 rfl (lv_at hl 0 rfl) ?_
                refine lv_aload_n hx hb dX8_restore_182 rfl (lv_at hl 0 rfl) ?_
                refine va_get (D := D) (ci := 8) (v := .ref q_t_image) (C := RX8) (T := TX8) (N := 23) hx hb hts inX8 hown hK hP 0 rfl rfl 21 (by decide) (hts _ lfX8_50) (fun _ h9 => h9) rfl dX8_restore_183 ?_
                refine lv_iload_n hx hb dX8_restore_186 rfl (lv_at hl 1 rfl) ?_
                refine lv_bipush (v := (110 : Int32)) hx hb dX8_restore_187 (by decide) ?_
                refine lv_iadd hx hb dX8_restore_189 ?_
                obtain ⟨x182, ex182, ix182, hf⟩ := ldIE hf
                refine k_iald hx hb hK hP 6 0 rfl rfl ix182 ex182 dX8_restore_190 ?_
                refine va_put (D := D) (ci := 8) (v := .int x182) (ty := .int) (C := RX8) (T := TX8) (N := 23) hx hb hts inX8 tyX8 tyX8_ok nmX8 hown hK hP hD hS 0 rfl rfl 0 (by decide) (hts _ lfX8_57) (fun _ h9 => h9) rfl (tyX8_ok 0 (by decide)) rfl rfl (Nat.le_of_ble_eq_true rfl) dX8_restore_191 (fun H locs hP hD hS => ?_)
                have hP : va_P D vwCl [(q_t, .inr (8, [.int x182, .ref q_t_book, .ref q_t_now, .ref q_t_does, .ref q_t_bad, .ref q_t_likes, .int t_sights, .ref q_t_sight, .int t_signs, .ref q_t_pad, .ref q_t_then, .int t_worseAt, .int t_worseWho, .int t_hours, .ref q_t_ahead, .int t_reason, .int t_acts, .ref q_t_most, .ref q_t_worth, .ref q_t_damp, .ref q_t_next, .ref q_t_image, .ref q_t_isKept])), (q_t_book, .inl (G 0, 26, .inl z41)), (q_t_does, .inl (G 0, 12, .inl z76)), (q_t_bad, .inl (G 0, 36, .inl z111)), (q_t_likes, .inl (G 0, 6, .inl z146)), (q_t_sight, .inl (G 0, 24, .inl z181)), (q_t_image, .inl (G 0, 240, .inl t_image)), (q_t_isKept, .inl (G 2, 2, .inl t_isKept))] H := hP
                have hD : va_D A [(q_t, .inr (8, [.int x182, .ref q_t_book, .ref q_t_now, .ref q_t_does, .ref q_t_bad, .ref q_t_likes, .int t_sights, .ref q_t_sight, .int t_signs, .ref q_t_pad, .ref q_t_then, .int t_worseAt, .int t_worseWho, .int t_hours, .ref q_t_ahead, .int t_reason, .int t_acts, .ref q_t_most, .ref q_t_worth, .ref q_t_damp, .ref q_t_next, .ref q_t_image, .ref q_t_isKept])), (q_t_book, .inl (G 0, 26, .inl z41)), (q_t_does, .inl (G 0, 12, .inl z76)), (q_t_bad, .inl (G 0, 36, .inl z111)), (q_t_likes, .inl (G 0, 6, .inl z146)), (q_t_sight, .inl (G 0, 24, .inl z181)), (q_t_image, .inl (G 0, 240, .inl t_image)), (q_t_isKept, .inl (G 2, 2, .inl t_isKept))] := hD
                refine lv_aload_n hx hb dX8_restore_194 rfl (lv_at hl 0 rfl) ?_
                refine lv_aload_n hx hb dX8_restore_195 rfl (lv_at hl 0 rfl) ?_
                refine va_get (D := D) (ci := 8) (v := .ref q_t_image) (C := RX8) (T := TX8) (N := 23) hx hb hts inX8 hown hK hP 0 rfl rfl 21 (by decide) (hts _ lfX8_50) (fun _ h9 => h9) rfl dX8_restore_196 ?_
                refine lv_iload_n hx hb dX8_restore_199 rfl (lv_at hl 1 rfl) ?_
                refine lv_bipush (v := (111 : Int32)) hx hb dX8_restore_200 (by decide) ?_
                refine lv_iadd hx hb dX8_restore_202 ?_
                obtain ⟨x183, ex183, ix183, hf⟩ := ldIE hf
                refine k_iald hx hb hK hP 6 0 rfl rfl ix183 ex183 dX8_restore_203 ?_
                refine va_put (D := D) (ci := 8) (v := .int x183) (ty := .int) (C := RX8) (T := TX8) (N := 23) hx hb hts inX8 tyX8 tyX8_ok nmX8 hown hK hP hD hS 0 rfl rfl 6 (by decide) (hts _ lfX8_150) (fun _ h9 => h9) rfl (tyX8_ok 6 (by decide)) rfl rfl (Nat.le_of_ble_eq_true rfl) dX8_restore_204 (fun H locs hP hD hS => ?_)
                have hP : va_P D vwCl [(q_t, .inr (8, [.int x182, .ref q_t_book, .ref q_t_now, .ref q_t_does, .ref q_t_bad, .ref q_t_likes, .int x183, .ref q_t_sight, .int t_signs, .ref q_t_pad, .ref q_t_then, .int t_worseAt, .int t_worseWho, .int t_hours, .ref q_t_ahead, .int t_reason, .int t_acts, .ref q_t_most, .ref q_t_worth, .ref q_t_damp, .ref q_t_next, .ref q_t_image, .ref q_t_isKept])), (q_t_book, .inl (G 0, 26, .inl z41)), (q_t_does, .inl (G 0, 12, .inl z76)), (q_t_bad, .inl (G 0, 36, .inl z111)), (q_t_likes, .inl (G 0, 6, .inl z146)), (q_t_sight, .inl (G 0, 24, .inl z181)), (q_t_image, .inl (G 0, 240, .inl t_image)), (q_t_isKept, .inl (G 2, 2, .inl t_isKept))] H := hP
                have hD : va_D A [(q_t, .inr (8, [.int x182, .ref q_t_book, .ref q_t_now, .ref q_t_does, .ref q_t_bad, .ref q_t_likes, .int x183, .ref q_t_sight, .int t_signs, .ref q_t_pad, .ref q_t_then, .int t_worseAt, .int t_worseWho, .int t_hours, .ref q_t_ahead, .int t_reason, .int t_acts, .ref q_t_most, .ref q_t_worth, .ref q_t_damp, .ref q_t_next, .ref q_t_image, .ref q_t_isKept])), (q_t_book, .inl (G 0, 26, .inl z41)), (q_t_does, .inl (G 0, 12, .inl z76)), (q_t_bad, .inl (G 0, 36, .inl z111)), (q_t_likes, .inl (G 0, 6, .inl z146)), (q_t_sight, .inl (G 0, 24, .inl z181)), (q_t_image, .inl (G 0, 240, .inl t_image)), (q_t_isKept, .inl (G 2, 2, .inl t_isKept))] := hD
                refine lv_iconst (v := (1 : Int32)) hx hb dX8_restore_207 (by decide) ?_
                exact RT _ _ _ _ _ _ _ _ hf _ _ _ H locs dX8_restore_208 (rkI _) hP hD hS
              have L172 : ∀ (k : Nat) (w168 : Int32) (w169 : Nat → Int32), fX8_restore_152 t_image y6 k w168 w169 = some u170 → ∀ (H : Heap) (locs : List Loc), va_P D vwCl [(q_t, .inr (8, [.int t_there, .ref q_t_book, .ref q_t_now, .ref q_t_does, .ref q_t_bad, .ref q_t_likes, .int t_sights, .ref q_t_sight, .int t_signs, .ref q_t_pad, .ref q_t_then, .int t_worseAt, .int t_worseWho, .int t_hours, .ref q_t_ahead, .int t_reason, .int t_acts, .ref q_t_most, .ref q_t_worth, .ref q_t_damp, .ref q_t_next, .ref q_t_image, .ref q_t_isKept])), (q_t_book, .inl (G 0, 26, .inl z41)), (q_t_does, .inl (G 0, 12, .inl z76)), (q_t_bad, .inl (G 0, 36, .inl z111)), (q_t_likes, .inl (G 0, 6, .inl z146)), (q_t_sight, .inl (G 0, 24, .inl w169)), (q_t_image, .inl (G 0, 240, .inl t_image)), (q_t_isKept, .inl (G 2, 2, .inl t_isKept))] H → va_D A [(q_t, .inr (8, [.int t_there, .ref q_t_book, .ref q_t_now, .ref q_t_does, .ref q_t_bad, .ref q_t_likes, .int t_sights, .ref q_t_sight, .int t_signs, .ref q_t_pad, .ref q_t_then, .int t_worseAt, .int t_worseWho, .int t_hours, .ref q_t_ahead, .int t_reason, .int t_acts, .ref q_t_most, .ref q_t_worth, .ref q_t_damp, .ref q_t_next, .ref q_t_image, .ref q_t_isKept])), (q_t_book, .inl (G 0, 26, .inl z41)), (q_t_does, .inl (G 0, 12, .inl z76)), (q_t_bad, .inl (G 0, 36, .inl z111)), (q_t_likes, .inl (G 0, 6, .inl z146)), (q_t_sight, .inl (G 0, 24, .inl w169)), (q_t_image, .inl (G 0, 240, .inl t_image)), (q_t_isKept, .inl (G 2, 2, .inl t_isKept))] → va_S A s.heap H locs → ∀ ls : Array Slot, lv_has ls 4 [(0, .ref q_t), (2, .int y6), (3, .int w168)] → W p l e (kR 2 82) s m args below meth c H locs 0 0 Q (F0 m 152 ls []) := by
                intro k; induction k with
                | zero => intro w168 w169 hf; exact nosome hf
                | succ k ih =>
                  intro w168 w169 hf; rw [fX8_restore_152] at hf
                  intro H locs hP hD hS ls hl
                  refine lv_iload_n hx hb dX8_restore_152 rfl (lv_at hl 2 rfl) ?_
                  refine lv_bipush (v := (24 : Int32)) hx hb dX8_restore_153 (by decide) ?_
                  refine lv_icmp_ge (tgt := 181) hx hb dX8_restore_155 (by decide) (fun c177 => ?_) (fun c177 => ?_)
                  · have hf := ifp c177 hf
                    exact E171 _ hf H locs hP hD hS ls (lv_sub hl [0, 1] rfl)
                  · have hf := ifn c177 hf
                    refine lv_aload_n hx hb dX8_restore_158 rfl (lv_at hl 0 rfl) ?_
                    refine va_get (D := D) (ci := 8) (v := .ref q_t_sight) (C := RX8) (T := TX8) (N := 23) hx hb hts inX8 hown hK hP 0 rfl rfl 7 (by decide) (hts _ lfX8_25) (fun _ h9 => h9) rfl dX8_restore_159 ?_
                    refine lv_iload_n hx hb dX8_restore_162 rfl (lv_at hl 2 rfl) ?_
                    refine lv_aload_n hx hb dX8_restore_163 rfl (lv_at hl 0 rfl) ?_
                    refine va_get (D := D) (ci := 8) (v := .ref q_t_image) (C := RX8) (T := TX8) (N := 23) hx hb hts inX8 hown hK hP 0 rfl rfl 21 (by decide) (hts _ lfX8_50) (fun _ h9 => h9) rfl dX8_restore_164 ?_
                    refine lv_iload_n hx hb dX8_restore_167 rfl (lv_at hl 1 rfl) ?_
                    refine lv_bipush (v := (80 : Int32)) hx hb dX8_restore_168 (by decide) ?_
                    refine lv_iadd hx hb dX8_restore_170 ?_
                    refine lv_iload_n hx hb dX8_restore_171 rfl (lv_at hl 2 rfl) ?_
                    refine lv_iadd hx hb dX8_restore_172 ?_
                    obtain ⟨x178, ex178, ix178, hf⟩ := ldIE hf
                    refine k_iald hx hb hK hP 6 0 rfl rfl ix178 ex178 dX8_restore_173 ?_
                    obtain ⟨g179, eg179, ig179, hf⟩ := stIE hf
                    refine k_iast hx hb hK hP hD hS 5 0 rfl rfl ig179 eg179 dX8_restore_174 (fun H locs hP hD hS => ?_)
                    have hP : va_P D vwCl [(q_t, .inr (8, [.int t_there, .ref q_t_book, .ref q_t_now, .ref q_t_does, .ref q_t_bad, .ref q_t_likes, .int t_sights, .ref q_t_sight, .int t_signs, .ref q_t_pad, .ref q_t_then, .int t_worseAt, .int t_worseWho, .int t_hours, .ref q_t_ahead, .int t_reason, .int t_acts, .ref q_t_most, .ref q_t_worth, .ref q_t_damp, .ref q_t_next, .ref q_t_image, .ref q_t_isKept])), (q_t_book, .inl (G 0, 26, .inl z41)), (q_t_does, .inl (G 0, 12, .inl z76)), (q_t_bad, .inl (G 0, 36, .inl z111)), (q_t_likes, .inl (G 0, 6, .inl z146)), (q_t_sight, .inl (G 0, 24, .inl g179)), (q_t_image, .inl (G 0, 240, .inl t_image)), (q_t_isKept, .inl (G 2, 2, .inl t_isKept))] H := hP
                    have hD : va_D A [(q_t, .inr (8, [.int t_there, .ref q_t_book, .ref q_t_now, .ref q_t_does, .ref q_t_bad, .ref q_t_likes, .int t_sights, .ref q_t_sight, .int t_signs, .ref q_t_pad, .ref q_t_then, .int t_worseAt, .int t_worseWho, .int t_hours, .ref q_t_ahead, .int t_reason, .int t_acts, .ref q_t_most, .ref q_t_worth, .ref q_t_damp, .ref q_t_next, .ref q_t_image, .ref q_t_isKept])), (q_t_book, .inl (G 0, 26, .inl z41)), (q_t_does, .inl (G 0, 12, .inl z76)), (q_t_bad, .inl (G 0, 36, .inl z111)), (q_t_likes, .inl (G 0, 6, .inl z146)), (q_t_sight, .inl (G 0, 24, .inl g179)), (q_t_image, .inl (G 0, 240, .inl t_image)), (q_t_isKept, .inl (G 2, 2, .inl t_isKept))] := hD
                    obtain ⟨y180, ey180⟩ : ∃ y : Int32, y = w168 + (1 : Int32) := ⟨_, rfl⟩
                    have hf := nmeU ey180 hf
                    refine lv_iinc (v := y180) (lv' := [(3, .int y180), (0, .ref q_t), (2, .int y6)]) hx hb dX8_restore_175 hl (k := 2) rfl (by rw [ey180]; rfl) (by decide) rfl (fun ls hl => ?_)
                    refine lv_goto (tgt := 152) hx hb dX8_restore_178 (by decide) ?_
                    exact ih _ _ hf H locs hP hD hS ls (lv_sub hl [1, 2, 0] rfl)
              exact L172 fu (0 : Int32) t_sight h174 H locs hP hD hS ls (lv_sub hl [1, 2, 0] rfl)
            have L137 : ∀ (k : Nat) (w133 : Int32) (w134 : Nat → Int32), fX8_restore_121 t_image y6 k w133 w134 = some u135 → ∀ (H : Heap) (locs : List Loc), va_P D vwCl [(q_t, .inr (8, [.int t_there, .ref q_t_book, .ref q_t_now, .ref q_t_does, .ref q_t_bad, .ref q_t_likes, .int t_sights, .ref q_t_sight, .int t_signs, .ref q_t_pad, .ref q_t_then, .int t_worseAt, .int t_worseWho, .int t_hours, .ref q_t_ahead, .int t_reason, .int t_acts, .ref q_t_most, .ref q_t_worth, .ref q_t_damp, .ref q_t_next, .ref q_t_image, .ref q_t_isKept])), (q_t_book, .inl (G 0, 26, .inl z41)), (q_t_does, .inl (G 0, 12, .inl z76)), (q_t_bad, .inl (G 0, 36, .inl z111)), (q_t_likes, .inl (G 0, 6, .inl w134)), (q_t_sight, .inl (G 0, 24, .inl t_sight)), (q_t_image, .inl (G 0, 240, .inl t_image)), (q_t_isKept, .inl (G 2, 2, .inl t_isKept))] H → va_D A [(q_t, .inr (8, [.int t_there, .ref q_t_book, .ref q_t_now, .ref q_t_does, .ref q_t_bad, .ref q_t_likes, .int t_sights, .ref q_t_sight, .int t_signs, .ref q_t_pad, .ref q_t_then, .int t_worseAt, .int t_worseWho, .int t_hours, .ref q_t_ahead, .int t_reason, .int t_acts, .ref q_t_most, .ref q_t_worth, .ref q_t_damp, .ref q_t_next, .ref q_t_image, .ref q_t_isKept])), (q_t_book, .inl (G 0, 26, .inl z41)), (q_t_does, .inl (G 0, 12, .inl z76)), (q_t_bad, .inl (G 0, 36, .inl z111)), (q_t_likes, .inl (G 0, 6, .inl w134)), (q_t_sight, .inl (G 0, 24, .inl t_sight)), (q_t_image, .inl (G 0, 240, .inl t_image)), (q_t_isKept, .inl (G 2, 2, .inl t_isKept))] → va_S A s.heap H locs → ∀ ls : Array Slot, lv_has ls 4 [(0, .ref q_t), (2, .int y6), (3, .int w133)] → W p l e (kR 2 82) s m args below meth c H locs 0 0 Q (F0 m 121 ls []) := by
              intro k; induction k with
              | zero => intro w133 w134 hf; exact nosome hf
              | succ k ih =>
                intro w133 w134 hf; rw [fX8_restore_121] at hf
                intro H locs hP hD hS ls hl
                refine lv_iload_n hx hb dX8_restore_121 rfl (lv_at hl 2 rfl) ?_
                refine lv_bipush (v := (6 : Int32)) hx hb dX8_restore_122 (by decide) ?_
                refine lv_icmp_ge (tgt := 150) hx hb dX8_restore_124 (by decide) (fun c142 => ?_) (fun c142 => ?_)
                · have hf := ifp c142 hf
                  exact E136 _ hf H locs hP hD hS ls (lv_sub hl [0, 1] rfl)
                · have hf := ifn c142 hf
                  refine lv_aload_n hx hb dX8_restore_127 rfl (lv_at hl 0 rfl) ?_
                  refine va_get (D := D) (ci := 8) (v := .ref q_t_likes) (C := RX8) (T := TX8) (N := 23) hx hb hts inX8 hown hK hP 0 rfl rfl 5 (by decide) (hts _ lfX8_22) (fun _ h9 => h9) rfl dX8_restore_128 ?_
                  refine lv_iload_n hx hb dX8_restore_131 rfl (lv_at hl 2 rfl) ?_
                  refine lv_aload_n hx hb dX8_restore_132 rfl (lv_at hl 0 rfl) ?_
                  refine va_get (D := D) (ci := 8) (v := .ref q_t_image) (C := RX8) (T := TX8) (N := 23) hx hb hts inX8 hown hK hP 0 rfl rfl 21 (by decide) (hts _ lfX8_50) (fun _ h9 => h9) rfl dX8_restore_133 ?_
                  refine lv_iload_n hx hb dX8_restore_136 rfl (lv_at hl 1 rfl) ?_
                  refine lv_bipush (v := (74 : Int32)) hx hb dX8_restore_137 (by decide) ?_
                  refine lv_iadd hx hb dX8_restore_139 ?_
                  refine lv_iload_n hx hb dX8_restore_140 rfl (lv_at hl 2 rfl) ?_
                  refine lv_iadd hx hb dX8_restore_141 ?_
                  obtain ⟨x143, ex143, ix143, hf⟩ := ldIE hf
                  refine k_iald hx hb hK hP 6 0 rfl rfl ix143 ex143 dX8_restore_142 ?_
                  obtain ⟨g144, eg144, ig144, hf⟩ := stIE hf
                  refine k_iast hx hb hK hP hD hS 4 0 rfl rfl ig144 eg144 dX8_restore_143 (fun H locs hP hD hS => ?_)
                  have hP : va_P D vwCl [(q_t, .inr (8, [.int t_there, .ref q_t_book, .ref q_t_now, .ref q_t_does, .ref q_t_bad, .ref q_t_likes, .int t_sights, .ref q_t_sight, .int t_signs, .ref q_t_pad, .ref q_t_then, .int t_worseAt, .int t_worseWho, .int t_hours, .ref q_t_ahead, .int t_reason, .int t_acts, .ref q_t_most, .ref q_t_worth, .ref q_t_damp, .ref q_t_next, .ref q_t_image, .ref q_t_isKept])), (q_t_book, .inl (G 0, 26, .inl z41)), (q_t_does, .inl (G 0, 12, .inl z76)), (q_t_bad, .inl (G 0, 36, .inl z111)), (q_t_likes, .inl (G 0, 6, .inl g144)), (q_t_sight, .inl (G 0, 24, .inl t_sight)), (q_t_image, .inl (G 0, 240, .inl t_image)), (q_t_isKept, .inl (G 2, 2, .inl t_isKept))] H := hP
                  have hD : va_D A [(q_t, .inr (8, [.int t_there, .ref q_t_book, .ref q_t_now, .ref q_t_does, .ref q_t_bad, .ref q_t_likes, .int t_sights, .ref q_t_sight, .int t_signs, .ref q_t_pad, .ref q_t_then, .int t_worseAt, .int t_worseWho, .int t_hours, .ref q_t_ahead, .int t_reason, .int t_acts, .ref q_t_most, .ref q_t_worth, .ref q_t_damp, .ref q_t_next, .ref q_t_image, .ref q_t_isKept])), (q_t_book, .inl (G 0, 26, .inl z41)), (q_t_does, .inl (G 0, 12, .inl z76)), (q_t_bad, .inl (G 0, 36, .inl z111)), (q_t_likes, .inl (G 0, 6, .inl g144)), (q_t_sight, .inl (G 0, 24, .inl t_sight)), (q_t_image, .inl (G 0, 240, .inl t_image)), (q_t_isKept, .inl (G 2, 2, .inl t_isKept))] := hD
                  obtain ⟨y145, ey145⟩ : ∃ y : Int32, y = w133 + (1 : Int32) := ⟨_, rfl⟩
                  have hf := nmeU ey145 hf
                  refine lv_iinc (v := y145) (lv' := [(3, .int y145), (0, .ref q_t), (2, .int y6)]) hx hb dX8_restore_144 hl (k := 2) rfl (by rw [ey145]; rfl) (by decide) rfl (fun ls hl => ?_)
                  refine lv_goto (tgt := 121) hx hb dX8_restore_147 (by decide) ?_
                  exact ih _ _ hf H locs hP hD hS ls (lv_sub hl [1, 2, 0] rfl)
            exact L137 fu (0 : Int32) t_likes h139 H locs hP hD hS ls (lv_sub hl [1, 2, 0] rfl)
          have L102 : ∀ (k : Nat) (w98 : Int32) (w99 : Nat → Int32), fX8_restore_90 t_image y6 k w98 w99 = some u100 → ∀ (H : Heap) (locs : List Loc), va_P D vwCl [(q_t, .inr (8, [.int t_there, .ref q_t_book, .ref q_t_now, .ref q_t_does, .ref q_t_bad, .ref q_t_likes, .int t_sights, .ref q_t_sight, .int t_signs, .ref q_t_pad, .ref q_t_then, .int t_worseAt, .int t_worseWho, .int t_hours, .ref q_t_ahead, .int t_reason, .int t_acts, .ref q_t_most, .ref q_t_worth, .ref q_t_damp, .ref q_t_next, .ref q_t_image, .ref q_t_isKept])), (q_t_book, .inl (G 0, 26, .inl z41)), (q_t_does, .inl (G 0, 12, .inl z76)), (q_t_bad, .inl (G 0, 36, .inl w99)), (q_t_likes, .inl (G 0, 6, .inl t_likes)), (q_t_sight, .inl (G 0, 24, .inl t_sight)), (q_t_image, .inl (G 0, 240, .inl t_image)), (q_t_isKept, .inl (G 2, 2, .inl t_isKept))] H → va_D A [(q_t, .inr (8, [.int t_there, .ref q_t_book, .ref q_t_now, .ref q_t_does, .ref q_t_bad, .ref q_t_likes, .int t_sights, .ref q_t_sight, .int t_signs, .ref q_t_pad, .ref q_t_then, .int t_worseAt, .int t_worseWho, .int t_hours, .ref q_t_ahead, .int t_reason, .int t_acts, .ref q_t_most, .ref q_t_worth, .ref q_t_damp, .ref q_t_next, .ref q_t_image, .ref q_t_isKept])), (q_t_book, .inl (G 0, 26, .inl z41)), (q_t_does, .inl (G 0, 12, .inl z76)), (q_t_bad, .inl (G 0, 36, .inl w99)), (q_t_likes, .inl (G 0, 6, .inl t_likes)), (q_t_sight, .inl (G 0, 24, .inl t_sight)), (q_t_image, .inl (G 0, 240, .inl t_image)), (q_t_isKept, .inl (G 2, 2, .inl t_isKept))] → va_S A s.heap H locs → ∀ ls : Array Slot, lv_has ls 4 [(0, .ref q_t), (2, .int y6), (3, .int w98)] → W p l e (kR 2 82) s m args below meth c H locs 0 0 Q (F0 m 90 ls []) := by
            intro k; induction k with
            | zero => intro w98 w99 hf; exact nosome hf
            | succ k ih =>
              intro w98 w99 hf; rw [fX8_restore_90] at hf
              intro H locs hP hD hS ls hl
              refine lv_iload_n hx hb dX8_restore_90 rfl (lv_at hl 2 rfl) ?_
              refine lv_bipush (v := (36 : Int32)) hx hb dX8_restore_91 (by decide) ?_
              refine lv_icmp_ge (tgt := 119) hx hb dX8_restore_93 (by decide) (fun c107 => ?_) (fun c107 => ?_)
              · have hf := ifp c107 hf
                exact E101 _ hf H locs hP hD hS ls (lv_sub hl [0, 1] rfl)
              · have hf := ifn c107 hf
                refine lv_aload_n hx hb dX8_restore_96 rfl (lv_at hl 0 rfl) ?_
                refine va_get (D := D) (ci := 8) (v := .ref q_t_bad) (C := RX8) (T := TX8) (N := 23) hx hb hts inX8 hown hK hP 0 rfl rfl 4 (by decide) (hts _ lfX8_19) (fun _ h9 => h9) rfl dX8_restore_97 ?_
                refine lv_iload_n hx hb dX8_restore_100 rfl (lv_at hl 2 rfl) ?_
                refine lv_aload_n hx hb dX8_restore_101 rfl (lv_at hl 0 rfl) ?_
                refine va_get (D := D) (ci := 8) (v := .ref q_t_image) (C := RX8) (T := TX8) (N := 23) hx hb hts inX8 hown hK hP 0 rfl rfl 21 (by decide) (hts _ lfX8_50) (fun _ h9 => h9) rfl dX8_restore_102 ?_
                refine lv_iload_n hx hb dX8_restore_105 rfl (lv_at hl 1 rfl) ?_
                refine lv_bipush (v := (38 : Int32)) hx hb dX8_restore_106 (by decide) ?_
                refine lv_iadd hx hb dX8_restore_108 ?_
                refine lv_iload_n hx hb dX8_restore_109 rfl (lv_at hl 2 rfl) ?_
                refine lv_iadd hx hb dX8_restore_110 ?_
                obtain ⟨x108, ex108, ix108, hf⟩ := ldIE hf
                refine k_iald hx hb hK hP 6 0 rfl rfl ix108 ex108 dX8_restore_111 ?_
                obtain ⟨g109, eg109, ig109, hf⟩ := stIE hf
                refine k_iast hx hb hK hP hD hS 3 0 rfl rfl ig109 eg109 dX8_restore_112 (fun H locs hP hD hS => ?_)
                have hP : va_P D vwCl [(q_t, .inr (8, [.int t_there, .ref q_t_book, .ref q_t_now, .ref q_t_does, .ref q_t_bad, .ref q_t_likes, .int t_sights, .ref q_t_sight, .int t_signs, .ref q_t_pad, .ref q_t_then, .int t_worseAt, .int t_worseWho, .int t_hours, .ref q_t_ahead, .int t_reason, .int t_acts, .ref q_t_most, .ref q_t_worth, .ref q_t_damp, .ref q_t_next, .ref q_t_image, .ref q_t_isKept])), (q_t_book, .inl (G 0, 26, .inl z41)), (q_t_does, .inl (G 0, 12, .inl z76)), (q_t_bad, .inl (G 0, 36, .inl g109)), (q_t_likes, .inl (G 0, 6, .inl t_likes)), (q_t_sight, .inl (G 0, 24, .inl t_sight)), (q_t_image, .inl (G 0, 240, .inl t_image)), (q_t_isKept, .inl (G 2, 2, .inl t_isKept))] H := hP
                have hD : va_D A [(q_t, .inr (8, [.int t_there, .ref q_t_book, .ref q_t_now, .ref q_t_does, .ref q_t_bad, .ref q_t_likes, .int t_sights, .ref q_t_sight, .int t_signs, .ref q_t_pad, .ref q_t_then, .int t_worseAt, .int t_worseWho, .int t_hours, .ref q_t_ahead, .int t_reason, .int t_acts, .ref q_t_most, .ref q_t_worth, .ref q_t_damp, .ref q_t_next, .ref q_t_image, .ref q_t_isKept])), (q_t_book, .inl (G 0, 26, .inl z41)), (q_t_does, .inl (G 0, 12, .inl z76)), (q_t_bad, .inl (G 0, 36, .inl g109)), (q_t_likes, .inl (G 0, 6, .inl t_likes)), (q_t_sight, .inl (G 0, 24, .inl t_sight)), (q_t_image, .inl (G 0, 240, .inl t_image)), (q_t_isKept, .inl (G 2, 2, .inl t_isKept))] := hD
                obtain ⟨y110, ey110⟩ : ∃ y : Int32, y = w98 + (1 : Int32) := ⟨_, rfl⟩
                have hf := nmeU ey110 hf
                refine lv_iinc (v := y110) (lv' := [(3, .int y110), (0, .ref q_t), (2, .int y6)]) hx hb dX8_restore_113 hl (k := 2) rfl (by rw [ey110]; rfl) (by decide) rfl (fun ls hl => ?_)
                refine lv_goto (tgt := 90) hx hb dX8_restore_116 (by decide) ?_
                exact ih _ _ hf H locs hP hD hS ls (lv_sub hl [1, 2, 0] rfl)
          exact L102 fu (0 : Int32) t_bad h104 H locs hP hD hS ls (lv_sub hl [1, 2, 0] rfl)
        have L67 : ∀ (k : Nat) (w63 : Int32) (w64 : Nat → Int32), fX8_restore_59 t_image y6 k w63 w64 = some u65 → ∀ (H : Heap) (locs : List Loc), va_P D vwCl [(q_t, .inr (8, [.int t_there, .ref q_t_book, .ref q_t_now, .ref q_t_does, .ref q_t_bad, .ref q_t_likes, .int t_sights, .ref q_t_sight, .int t_signs, .ref q_t_pad, .ref q_t_then, .int t_worseAt, .int t_worseWho, .int t_hours, .ref q_t_ahead, .int t_reason, .int t_acts, .ref q_t_most, .ref q_t_worth, .ref q_t_damp, .ref q_t_next, .ref q_t_image, .ref q_t_isKept])), (q_t_book, .inl (G 0, 26, .inl z41)), (q_t_does, .inl (G 0, 12, .inl w64)), (q_t_bad, .inl (G 0, 36, .inl t_bad)), (q_t_likes, .inl (G 0, 6, .inl t_likes)), (q_t_sight, .inl (G 0, 24, .inl t_sight)), (q_t_image, .inl (G 0, 240, .inl t_image)), (q_t_isKept, .inl (G 2, 2, .inl t_isKept))] H → va_D A [(q_t, .inr (8, [.int t_there, .ref q_t_book, .ref q_t_now, .ref q_t_does, .ref q_t_bad, .ref q_t_likes, .int t_sights, .ref q_t_sight, .int t_signs, .ref q_t_pad, .ref q_t_then, .int t_worseAt, .int t_worseWho, .int t_hours, .ref q_t_ahead, .int t_reason, .int t_acts, .ref q_t_most, .ref q_t_worth, .ref q_t_damp, .ref q_t_next, .ref q_t_image, .ref q_t_isKept])), (q_t_book, .inl (G 0, 26, .inl z41)), (q_t_does, .inl (G 0, 12, .inl w64)), (q_t_bad, .inl (G 0, 36, .inl t_bad)), (q_t_likes, .inl (G 0, 6, .inl t_likes)), (q_t_sight, .inl (G 0, 24, .inl t_sight)), (q_t_image, .inl (G 0, 240, .inl t_image)), (q_t_isKept, .inl (G 2, 2, .inl t_isKept))] → va_S A s.heap H locs → ∀ ls : Array Slot, lv_has ls 4 [(0, .ref q_t), (2, .int y6), (3, .int w63)] → W p l e (kR 2 82) s m args below meth c H locs 0 0 Q (F0 m 59 ls []) := by
          intro k; induction k with
          | zero => intro w63 w64 hf; exact nosome hf
          | succ k ih =>
            intro w63 w64 hf; rw [fX8_restore_59] at hf
            intro H locs hP hD hS ls hl
            refine lv_iload_n hx hb dX8_restore_59 rfl (lv_at hl 2 rfl) ?_
            refine lv_bipush (v := (12 : Int32)) hx hb dX8_restore_60 (by decide) ?_
            refine lv_icmp_ge (tgt := 88) hx hb dX8_restore_62 (by decide) (fun c72 => ?_) (fun c72 => ?_)
            · have hf := ifp c72 hf
              exact E66 _ hf H locs hP hD hS ls (lv_sub hl [0, 1] rfl)
            · have hf := ifn c72 hf
              refine lv_aload_n hx hb dX8_restore_65 rfl (lv_at hl 0 rfl) ?_
              refine va_get (D := D) (ci := 8) (v := .ref q_t_does) (C := RX8) (T := TX8) (N := 23) hx hb hts inX8 hown hK hP 0 rfl rfl 3 (by decide) (hts _ lfX8_16) (fun _ h9 => h9) rfl dX8_restore_66 ?_
              refine lv_iload_n hx hb dX8_restore_69 rfl (lv_at hl 2 rfl) ?_
              refine lv_aload_n hx hb dX8_restore_70 rfl (lv_at hl 0 rfl) ?_
              refine va_get (D := D) (ci := 8) (v := .ref q_t_image) (C := RX8) (T := TX8) (N := 23) hx hb hts inX8 hown hK hP 0 rfl rfl 21 (by decide) (hts _ lfX8_50) (fun _ h9 => h9) rfl dX8_restore_71 ?_
              refine lv_iload_n hx hb dX8_restore_74 rfl (lv_at hl 1 rfl) ?_
              refine lv_bipush (v := (26 : Int32)) hx hb dX8_restore_75 (by decide) ?_
              refine lv_iadd hx hb dX8_restore_77 ?_
              refine lv_iload_n hx hb dX8_restore_78 rfl (lv_at hl 2 rfl) ?_
              refine lv_iadd hx hb dX8_restore_79 ?_
              obtain ⟨x73, ex73, ix73, hf⟩ := ldIE hf
              refine k_iald hx hb hK hP 6 0 rfl rfl ix73 ex73 dX8_restore_80 ?_
              obtain ⟨g74, eg74, ig74, hf⟩ := stIE hf
              refine k_iast hx hb hK hP hD hS 2 0 rfl rfl ig74 eg74 dX8_restore_81 (fun H locs hP hD hS => ?_)
              have hP : va_P D vwCl [(q_t, .inr (8, [.int t_there, .ref q_t_book, .ref q_t_now, .ref q_t_does, .ref q_t_bad, .ref q_t_likes, .int t_sights, .ref q_t_sight, .int t_signs, .ref q_t_pad, .ref q_t_then, .int t_worseAt, .int t_worseWho, .int t_hours, .ref q_t_ahead, .int t_reason, .int t_acts, .ref q_t_most, .ref q_t_worth, .ref q_t_damp, .ref q_t_next, .ref q_t_image, .ref q_t_isKept])), (q_t_book, .inl (G 0, 26, .inl z41)), (q_t_does, .inl (G 0, 12, .inl g74)), (q_t_bad, .inl (G 0, 36, .inl t_bad)), (q_t_likes, .inl (G 0, 6, .inl t_likes)), (q_t_sight, .inl (G 0, 24, .inl t_sight)), (q_t_image, .inl (G 0, 240, .inl t_image)), (q_t_isKept, .inl (G 2, 2, .inl t_isKept))] H := hP
              have hD : va_D A [(q_t, .inr (8, [.int t_there, .ref q_t_book, .ref q_t_now, .ref q_t_does, .ref q_t_bad, .ref q_t_likes, .int t_sights, .ref q_t_sight, .int t_signs, .ref q_t_pad, .ref q_t_then, .int t_worseAt, .int t_worseWho, .int t_hours, .ref q_t_ahead, .int t_reason, .int t_acts, .ref q_t_most, .ref q_t_worth, .ref q_t_damp, .ref q_t_next, .ref q_t_image, .ref q_t_isKept])), (q_t_book, .inl (G 0, 26, .inl z41)), (q_t_does, .inl (G 0, 12, .inl g74)), (q_t_bad, .inl (G 0, 36, .inl t_bad)), (q_t_likes, .inl (G 0, 6, .inl t_likes)), (q_t_sight, .inl (G 0, 24, .inl t_sight)), (q_t_image, .inl (G 0, 240, .inl t_image)), (q_t_isKept, .inl (G 2, 2, .inl t_isKept))] := hD
              obtain ⟨y75, ey75⟩ : ∃ y : Int32, y = w63 + (1 : Int32) := ⟨_, rfl⟩
              have hf := nmeU ey75 hf
              refine lv_iinc (v := y75) (lv' := [(3, .int y75), (0, .ref q_t), (2, .int y6)]) hx hb dX8_restore_82 hl (k := 2) rfl (by rw [ey75]; rfl) (by decide) rfl (fun ls hl => ?_)
              refine lv_goto (tgt := 59) hx hb dX8_restore_85 (by decide) ?_
              exact ih _ _ hf H locs hP hD hS ls (lv_sub hl [1, 2, 0] rfl)
        exact L67 fu (0 : Int32) t_does h69 H locs hP hD hS ls (lv_sub hl [1, 2, 0] rfl)
      have L32 : ∀ (k : Nat) (w28 : Int32) (w29 : Nat → Int32), fX8_restore_31 t_image y6 k w28 w29 = some u30 → ∀ (H : Heap) (locs : List Loc), va_P D vwCl [(q_t, .inr (8, [.int t_there, .ref q_t_book, .ref q_t_now, .ref q_t_does, .ref q_t_bad, .ref q_t_likes, .int t_sights, .ref q_t_sight, .int t_signs, .ref q_t_pad, .ref q_t_then, .int t_worseAt, .int t_worseWho, .int t_hours, .ref q_t_ahead, .int t_reason, .int t_acts, .ref q_t_most, .ref q_t_worth, .ref q_t_damp, .ref q_t_next, .ref q_t_image, .ref q_t_isKept])), (q_t_book, .inl (G 0, 26, .inl w29)), (q_t_does, .inl (G 0, 12, .inl t_does)), (q_t_bad, .inl (G 0, 36, .inl t_bad)), (q_t_likes, .inl (G 0, 6, .inl t_likes)), (q_t_sight, .inl (G 0, 24, .inl t_sight)), (q_t_image, .inl (G 0, 240, .inl t_image)), (q_t_isKept, .inl (G 2, 2, .inl t_isKept))] H → va_D A [(q_t, .inr (8, [.int t_there, .ref q_t_book, .ref q_t_now, .ref q_t_does, .ref q_t_bad, .ref q_t_likes, .int t_sights, .ref q_t_sight, .int t_signs, .ref q_t_pad, .ref q_t_then, .int t_worseAt, .int t_worseWho, .int t_hours, .ref q_t_ahead, .int t_reason, .int t_acts, .ref q_t_most, .ref q_t_worth, .ref q_t_damp, .ref q_t_next, .ref q_t_image, .ref q_t_isKept])), (q_t_book, .inl (G 0, 26, .inl w29)), (q_t_does, .inl (G 0, 12, .inl t_does)), (q_t_bad, .inl (G 0, 36, .inl t_bad)), (q_t_likes, .inl (G 0, 6, .inl t_likes)), (q_t_sight, .inl (G 0, 24, .inl t_sight)), (q_t_image, .inl (G 0, 240, .inl t_image)), (q_t_isKept, .inl (G 2, 2, .inl t_isKept))] → va_S A s.heap H locs → ∀ ls : Array Slot, lv_has ls 4 [(0, .ref q_t), (2, .int y6), (3, .int w28)] → W p l e (kR 2 82) s m args below meth c H locs 0 0 Q (F0 m 31 ls []) := by
        intro k; induction k with
        | zero => intro w28 w29 hf; exact nosome hf
        | succ k ih =>
          intro w28 w29 hf; rw [fX8_restore_31] at hf
          intro H locs hP hD hS ls hl
          refine lv_iload_n hx hb dX8_restore_31 rfl (lv_at hl 2 rfl) ?_
          refine lv_bipush (v := (26 : Int32)) hx hb dX8_restore_32 (by decide) ?_
          refine lv_icmp_ge (tgt := 57) hx hb dX8_restore_34 (by decide) (fun c37 => ?_) (fun c37 => ?_)
          · have hf := ifp c37 hf
            exact E31 _ hf H locs hP hD hS ls (lv_sub hl [0, 1] rfl)
          · have hf := ifn c37 hf
            refine lv_aload_n hx hb dX8_restore_37 rfl (lv_at hl 0 rfl) ?_
            refine va_get (D := D) (ci := 8) (v := .ref q_t_book) (C := RX8) (T := TX8) (N := 23) hx hb hts inX8 hown hK hP 0 rfl rfl 1 (by decide) (hts _ lfX8_7) (fun _ h9 => h9) rfl dX8_restore_38 ?_
            refine lv_iload_n hx hb dX8_restore_41 rfl (lv_at hl 2 rfl) ?_
            refine lv_aload_n hx hb dX8_restore_42 rfl (lv_at hl 0 rfl) ?_
            refine va_get (D := D) (ci := 8) (v := .ref q_t_image) (C := RX8) (T := TX8) (N := 23) hx hb hts inX8 hown hK hP 0 rfl rfl 21 (by decide) (hts _ lfX8_50) (fun _ h9 => h9) rfl dX8_restore_43 ?_
            refine lv_iload_n hx hb dX8_restore_46 rfl (lv_at hl 1 rfl) ?_
            refine lv_iload_n hx hb dX8_restore_47 rfl (lv_at hl 2 rfl) ?_
            refine lv_iadd hx hb dX8_restore_48 ?_
            obtain ⟨x38, ex38, ix38, hf⟩ := ldIE hf
            refine k_iald hx hb hK hP 6 0 rfl rfl ix38 ex38 dX8_restore_49 ?_
            obtain ⟨g39, eg39, ig39, hf⟩ := stIE hf
            refine k_iast hx hb hK hP hD hS 1 0 rfl rfl ig39 eg39 dX8_restore_50 (fun H locs hP hD hS => ?_)
            have hP : va_P D vwCl [(q_t, .inr (8, [.int t_there, .ref q_t_book, .ref q_t_now, .ref q_t_does, .ref q_t_bad, .ref q_t_likes, .int t_sights, .ref q_t_sight, .int t_signs, .ref q_t_pad, .ref q_t_then, .int t_worseAt, .int t_worseWho, .int t_hours, .ref q_t_ahead, .int t_reason, .int t_acts, .ref q_t_most, .ref q_t_worth, .ref q_t_damp, .ref q_t_next, .ref q_t_image, .ref q_t_isKept])), (q_t_book, .inl (G 0, 26, .inl g39)), (q_t_does, .inl (G 0, 12, .inl t_does)), (q_t_bad, .inl (G 0, 36, .inl t_bad)), (q_t_likes, .inl (G 0, 6, .inl t_likes)), (q_t_sight, .inl (G 0, 24, .inl t_sight)), (q_t_image, .inl (G 0, 240, .inl t_image)), (q_t_isKept, .inl (G 2, 2, .inl t_isKept))] H := hP
            have hD : va_D A [(q_t, .inr (8, [.int t_there, .ref q_t_book, .ref q_t_now, .ref q_t_does, .ref q_t_bad, .ref q_t_likes, .int t_sights, .ref q_t_sight, .int t_signs, .ref q_t_pad, .ref q_t_then, .int t_worseAt, .int t_worseWho, .int t_hours, .ref q_t_ahead, .int t_reason, .int t_acts, .ref q_t_most, .ref q_t_worth, .ref q_t_damp, .ref q_t_next, .ref q_t_image, .ref q_t_isKept])), (q_t_book, .inl (G 0, 26, .inl g39)), (q_t_does, .inl (G 0, 12, .inl t_does)), (q_t_bad, .inl (G 0, 36, .inl t_bad)), (q_t_likes, .inl (G 0, 6, .inl t_likes)), (q_t_sight, .inl (G 0, 24, .inl t_sight)), (q_t_image, .inl (G 0, 240, .inl t_image)), (q_t_isKept, .inl (G 2, 2, .inl t_isKept))] := hD
            obtain ⟨y40, ey40⟩ : ∃ y : Int32, y = w28 + (1 : Int32) := ⟨_, rfl⟩
            have hf := nmeU ey40 hf
            refine lv_iinc (v := y40) (lv' := [(3, .int y40), (0, .ref q_t), (2, .int y6)]) hx hb dX8_restore_51 hl (k := 2) rfl (by rw [ey40]; rfl) (by decide) rfl (fun ls hl => ?_)
            refine lv_goto (tgt := 31) hx hb dX8_restore_54 (by decide) ?_
            exact ih _ _ hf H locs hP hD hS ls (lv_sub hl [1, 2, 0] rfl)
      exact L32 fu (0 : Int32) t_book h34 H locs hP hD hS ls (lv_sub hl [2, 1, 0] rfl)
    · have hf := ifp c5 hf
      refine lv_bipush (v := (-3 : Int32)) hx hb dX8_restore_21 (by decide) ?_
      exact RT _ _ _ _ _ _ _ _ hf _ _ _ H locs dX8_restore_23 (rkI _) hP hD hS
  · have hf := ifp c3 hf
    refine lv_bipush (v := (-2 : Int32)) hx hb dX8_restore_9 (by decide) ?_
    exact RT _ _ _ _ _ _ _ _ hf _ _ _ H locs dX8_restore_11 (rkI _) hP hD hS
set_option maxHeartbeats 4000000 in
set_option maxRecDepth 100000 in
theorem kX8_room (l : Launch) (D : va_G) (G : Nat → ClassId) (q_t q_t_book q_t_now q_t_does q_t_bad q_t_likes q_t_sight q_t_pad q_t_then q_t_ahead q_t_most q_t_worth q_t_damp q_t_next q_t_image q_t_isKept : Nat) (t_there : Int32) (t_sights : Int32) (t_signs : Int32) (t_worseAt : Int32) (t_worseWho : Int32) (t_hours : Int32) (t_reason : Int32) (t_acts : Int32) (t_does : Nat → Int32) (v1 : Int32) (v2 : Int32) (v3 : Int32) {r : Int32} {o_t_does : Nat → Int32} (hf : fX8_room t_does v1 v2 v3 = some (r, o_t_does)) : rW l D G yX8_room cX8_room 5 (some .int) 2 82 [.ref q_t, .int v1, .int v2, .int v3] [(q_t, .inr (8, [.int t_there, .ref q_t_book, .ref q_t_now, .ref q_t_does, .ref q_t_bad, .ref q_t_likes, .int t_sights, .ref q_t_sight, .int t_signs, .ref q_t_pad, .ref q_t_then, .int t_worseAt, .int t_worseWho, .int t_hours, .ref q_t_ahead, .int t_reason, .int t_acts, .ref q_t_most, .ref q_t_worth, .ref q_t_damp, .ref q_t_next, .ref q_t_image, .ref q_t_isKept])), (q_t_does, .inl (G 0, 12, .inl t_does))] [(q_t, .inr (8, [.int t_there, .ref q_t_book, .ref q_t_now, .ref q_t_does, .ref q_t_bad, .ref q_t_likes, .int t_sights, .ref q_t_sight, .int t_signs, .ref q_t_pad, .ref q_t_then, .int t_worseAt, .int t_worseWho, .int t_hours, .ref q_t_ahead, .int t_reason, .int t_acts, .ref q_t_most, .ref q_t_worth, .ref q_t_damp, .ref q_t_next, .ref q_t_image, .ref q_t_isKept])), (q_t_does, .inl (G 0, 12, .inl o_t_does))] (some (.int r)) := by
  refine rW_of (by decide) (Nat.le_of_ble_eq_true rfl) ?_
  intro p e s m args below meth c Q A hx hb hml hown hts hK hn hA RET H locs hP hD hS ls hl
  have RT : ∀ (a0_ : Int32) (a1_ : Nat → Int32), some (a0_, a1_) = some (r, o_t_does) → ∀ (pc : Nat) (ls : Array Slot) (ins : Instr) (H : Heap) (locs : List Loc), decode cX8_room pc = .ok (ins, 1) → rk (some .int) (some (.int a0_)) ins → va_P D vwCl [(q_t, .inr (8, [.int t_there, .ref q_t_book, .ref q_t_now, .ref q_t_does, .ref q_t_bad, .ref q_t_likes, .int t_sights, .ref q_t_sight, .int t_signs, .ref q_t_pad, .ref q_t_then, .int t_worseAt, .int t_worseWho, .int t_hours, .ref q_t_ahead, .int t_reason, .int t_acts, .ref q_t_most, .ref q_t_worth, .ref q_t_damp, .ref q_t_next, .ref q_t_image, .ref q_t_isKept])), (q_t_does, .inl (G 0, 12, .inl a1_))] H → va_D A [(q_t, .inr (8, [.int t_there, .ref q_t_book, .ref q_t_now, .ref q_t_does, .ref q_t_bad, .ref q_t_likes, .int t_sights, .ref q_t_sight, .int t_signs, .ref q_t_pad, .ref q_t_then, .int t_worseAt, .int t_worseWho, .int t_hours, .ref q_t_ahead, .int t_reason, .int t_acts, .ref q_t_most, .ref q_t_worth, .ref q_t_damp, .ref q_t_next, .ref q_t_image, .ref q_t_isKept])), (q_t_does, .inl (G 0, 12, .inl a1_))] → va_S A s.heap H locs → W p l e (kR 2 82) s m args below meth c H locs 0 0 Q (F0 m pc ls [.int a0_]) := by
    intro a0_ a1_ hy; obtain ⟨rfl, rfl⟩ := sm2 hy
    exact RET
  have hown : s.vm.findClass RX8 = some m.cls := hown
  have hl : lv_has ls 5 [(0, .ref q_t), (1, .int v1), (2, .int v2), (3, .int v3)] := hl
  clear RET
  rw [fX8_room] at hf
  refine lv_iload_n hx hb dX8_room_0 rfl (lv_at hl 1 rfl) ?_
  refine lv_iconst (v := (0 : Int32)) hx hb dX8_room_1 (by decide) ?_
  refine lv_iconst (v := (3 : Int32)) hx hb dX8_room_2 (by decide) ?_
  obtain ⟨r1, h2, hf⟩ := bd1E hf
  refine kO_stat hx hb hml hown hts hK hn hP (kX8_in l D G v1 (0 : Int32) (3 : Int32) h2) csX8_61 ⟨Nat.le_of_ble_eq_true rfl, Nat.le_of_ble_eq_true rfl⟩ [] rfl rfl hl.1 rfl (Nat.le_of_ble_eq_true rfl) ⟨Nat.zero_le _, Nat.zero_le _⟩ dX8_room_3 ?_
  refine lv_if_ne (tgt := 11) hx hb dX8_room_6 (by decide) (fun c3 => ?_) (fun c3 => ?_)
  · have hf := ifn c3 hf
    refine lv_iload_n hx hb dX8_room_11 rfl (lv_at hl 2 rfl) ?_
    refine lv_iconst (v := (0 : Int32)) hx hb dX8_room_12 (by decide) ?_
    refine lv_iconst (v := (2 : Int32)) hx hb dX8_room_13 (by decide) ?_
    obtain ⟨r4, h5, hf⟩ := bd1E hf
    refine kO_stat hx hb hml hown hts hK hn hP (kX8_in l D G v2 (0 : Int32) (2 : Int32) h5) csX8_61 ⟨Nat.le_of_ble_eq_true rfl, Nat.le_of_ble_eq_true rfl⟩ [] rfl rfl hl.1 rfl (Nat.le_of_ble_eq_true rfl) ⟨Nat.zero_le _, Nat.zero_le _⟩ dX8_room_14 ?_
    refine lv_if_eq (tgt := 30) hx hb dX8_room_17 (by decide) (fun c6 => ?_) (fun c6 => ?_)
    · have hf := ifp c6 hf
      refine lv_bipush (v := (-2 : Int32)) hx hb dX8_room_30 (by decide) ?_
      exact RT _ _ hf _ _ _ H locs dX8_room_32 (rkI _) hP hD hS
    · have hf := ifn c6 hf
      refine lv_iload_n hx hb dX8_room_20 rfl (lv_at hl 3 rfl) ?_
      refine lv_bipush (v := (-5 : Int32)) hx hb dX8_room_21 (by decide) ?_
      refine lv_iconst (v := (5 : Int32)) hx hb dX8_room_23 (by decide) ?_
      obtain ⟨r7, h8, hf⟩ := bd1E hf
      refine kO_stat hx hb hml hown hts hK hn hP (kX8_in l D G v3 (-5 : Int32) (5 : Int32) h8) csX8_61 ⟨Nat.le_of_ble_eq_true rfl, Nat.le_of_ble_eq_true rfl⟩ [] rfl rfl hl.1 rfl (Nat.le_of_ble_eq_true rfl) ⟨Nat.zero_le _, Nat.zero_le _⟩ dX8_room_24 ?_
      refine lv_if_ne (tgt := 33) hx hb dX8_room_27 (by decide) (fun c9 => ?_) (fun c9 => ?_)
      · have hf := ifn c9 hf
        refine lv_aload_n hx hb dX8_room_33 rfl (lv_at hl 0 rfl) ?_
        refine va_get (D := D) (ci := 8) (v := .ref q_t_does) (C := RX8) (T := TX8) (N := 23) hx hb hts inX8 hown hK hP 0 rfl rfl 3 (by decide) (hts _ lfX8_16) (fun _ h9 => h9) rfl dX8_room_34 ?_
        refine lv_iconst (v := (3 : Int32)) hx hb dX8_room_37 (by decide) ?_
        refine lv_iload_n hx hb dX8_room_38 rfl (lv_at hl 1 rfl) ?_
        refine lv_imul hx hb dX8_room_39 ?_
        refine lv_iload_n hx hb dX8_room_40 rfl (lv_at hl 2 rfl) ?_
        refine lv_iadd hx hb dX8_room_41 ?_
        obtain ⟨x10, ex10, ix10, hf⟩ := ldIE hf
        refine k_iald hx hb hK hP 1 0 rfl rfl ix10 ex10 dX8_room_42 ?_
        refine lv_istore (lv' := [(4, .int x10), (0, .ref q_t), (1, .int v1), (2, .int v2), (3, .int v3)]) hx hb dX8_room_43 hl (by decide) rfl (fun ls hl => ?_)
        refine lv_aload_n hx hb dX8_room_45 rfl (lv_at hl 1 rfl) ?_
        refine va_get (D := D) (ci := 8) (v := .ref q_t_does) (C := RX8) (T := TX8) (N := 23) hx hb hts inX8 hown hK hP 0 rfl rfl 3 (by decide) (hts _ lfX8_16) (fun _ h9 => h9) rfl dX8_room_46 ?_
        refine lv_iconst (v := (3 : Int32)) hx hb dX8_room_49 (by decide) ?_
        refine lv_iload_n hx hb dX8_room_50 rfl (lv_at hl 2 rfl) ?_
        refine lv_imul hx hb dX8_room_51 ?_
        refine lv_iload_n hx hb dX8_room_52 rfl (lv_at hl 3 rfl) ?_
        refine lv_iadd hx hb dX8_room_53 ?_
        refine lv_iload_n hx hb dX8_room_54 rfl (lv_at hl 4 rfl) ?_
        obtain ⟨g11, eg11, ig11, hf⟩ := stIE hf
        refine k_iast hx hb hK hP hD hS 1 0 rfl rfl ig11 eg11 dX8_room_55 (fun H locs hP hD hS => ?_)
        have hP : va_P D vwCl [(q_t, .inr (8, [.int t_there, .ref q_t_book, .ref q_t_now, .ref q_t_does, .ref q_t_bad, .ref q_t_likes, .int t_sights, .ref q_t_sight, .int t_signs, .ref q_t_pad, .ref q_t_then, .int t_worseAt, .int t_worseWho, .int t_hours, .ref q_t_ahead, .int t_reason, .int t_acts, .ref q_t_most, .ref q_t_worth, .ref q_t_damp, .ref q_t_next, .ref q_t_image, .ref q_t_isKept])), (q_t_does, .inl (G 0, 12, .inl g11))] H := hP
        have hD : va_D A [(q_t, .inr (8, [.int t_there, .ref q_t_book, .ref q_t_now, .ref q_t_does, .ref q_t_bad, .ref q_t_likes, .int t_sights, .ref q_t_sight, .int t_signs, .ref q_t_pad, .ref q_t_then, .int t_worseAt, .int t_worseWho, .int t_hours, .ref q_t_ahead, .int t_reason, .int t_acts, .ref q_t_most, .ref q_t_worth, .ref q_t_damp, .ref q_t_next, .ref q_t_image, .ref q_t_isKept])), (q_t_does, .inl (G 0, 12, .inl g11))] := hD
        refine lv_iload hx hb dX8_room_56 (lv_at hl 0 rfl) ?_
        refine lv_bipush (v := (10 : Int32)) hx hb dX8_room_58 (by decide) ?_
        refine lv_iadd hx hb dX8_room_60 ?_
        exact RT _ _ hf _ _ _ H locs dX8_room_61 (rkI _) hP hD hS
      · have hf := ifp c9 hf
        refine lv_bipush (v := (-2 : Int32)) hx hb dX8_room_30 (by decide) ?_
        exact RT _ _ hf _ _ _ H locs dX8_room_32 (rkI _) hP hD hS
  · have hf := ifp c3 hf
    refine lv_iconst (v := (-1 : Int32)) hx hb dX8_room_9 (by decide) ?_
    exact RT _ _ hf _ _ _ H locs dX8_room_10 (rkI _) hP hD hS
