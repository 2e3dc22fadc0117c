set_option maxHeartbeats 4000000 in
set_option maxRecDepth 100000 in
theorem kX8_hour (l : Launch) (D : va_G) (G : Nat → ClassId) (fu : Nat) (q_t q_t_book q_t_now q_t_does q_t_bad q_t_likes q_t_sight q_t_pad q_t_then q_t_ahead q_t_most q_t_worth q_t_damp q_t_next q_t_image q_t_isKept : Nat) (t_there : Int32) (t_sights : Int32) (t_signs : Int32) (t_worseAt : Int32) (t_worseWho : Int32) (t_hours : Int32) (t_reason : Int32) (t_acts : Int32) (t_now : Nat → Int32) (t_does : Nat → Int32) (t_bad : Nat → Int32) (t_then : Nat → Int32) {o_t_now : Nat → Int32} {o_t_then : Nat → Int32} (hf : fX8_hour fu t_there t_now t_does t_bad t_then = some (o_t_now, o_t_then)) : rW l D G yX8_hour cX8_hour 6 none 2 81 [.ref q_t] [(q_t, .inr (8, [.int t_there, .ref q_t_book, .ref q_t_now, .ref q_t_does, .ref q_t_bad, .ref q_t_likes, .int t_sights, .ref q_t_sight, .int t_signs, .ref q_t_pad, .ref q_t_then, .int t_worseAt, .int t_worseWho, .int t_hours, .ref q_t_ahead, .int t_reason, .int t_acts, .ref q_t_most, .ref q_t_worth, .ref q_t_damp, .ref q_t_next, .ref q_t_image, .ref q_t_isKept])), (q_t_now, .inl (G 0, 26, .inl t_now)), (q_t_does, .inl (G 0, 12, .inl t_does)), (q_t_bad, .inl (G 0, 36, .inl t_bad)), (q_t_then, .inl (G 0, 18, .inl t_then))] [(q_t, .inr (8, [.int t_there, .ref q_t_book, .ref q_t_now, .ref q_t_does, .ref q_t_bad, .ref q_t_likes, .int t_sights, .ref q_t_sight, .int t_signs, .ref q_t_pad, .ref q_t_then, .int t_worseAt, .int t_worseWho, .int t_hours, .ref q_t_ahead, .int t_reason, .int t_acts, .ref q_t_most, .ref q_t_worth, .ref q_t_damp, .ref q_t_next, .ref q_t_image, .ref q_t_isKept])), (q_t_now, .inl (G 0, 26, .inl o_t_now)), (q_t_does, .inl (G 0, 12, .inl t_does)), (q_t_bad, .inl (G 0, 36, .inl t_bad)), (q_t_then, .inl (G 0, 18, .inl o_t_then))] none := by
  refine rW_of (by decide) (Nat.le_of_ble_eq_true rfl) ?_
  intro p e s m args below meth c Q A hx hb hml hown hts hK hn hA RET H locs hP hD hS ls hl
  have RT : ∀ (a0_ : Nat → Int32) (a1_ : Nat → Int32), some (a0_, a1_) = some (o_t_now, o_t_then) → ∀ (pc : Nat) (ls : Array Slot) (ins : Instr) (H : Heap) (locs : List Loc), decode cX8_hour pc = .ok (ins, 1) → rk none none ins → va_P D vwCl [(q_t, .inr (8, [.int t_there, .ref q_t_book, .ref q_t_now, .ref q_t_does, .ref q_t_bad, .ref q_t_likes, .int t_sights, .ref q_t_sight, .int t_signs, .ref q_t_pad, .ref q_t_then, .int t_worseAt, .int t_worseWho, .int t_hours, .ref q_t_ahead, .int t_reason, .int t_acts, .ref q_t_most, .ref q_t_worth, .ref q_t_damp, .ref q_t_next, .ref q_t_image, .ref q_t_isKept])), (q_t_now, .inl (G 0, 26, .inl a0_)), (q_t_does, .inl (G 0, 12, .inl t_does)), (q_t_bad, .inl (G 0, 36, .inl t_bad)), (q_t_then, .inl (G 0, 18, .inl a1_))] H → va_D A [(q_t, .inr (8, [.int t_there, .ref q_t_book, .ref q_t_now, .ref q_t_does, .ref q_t_bad, .ref q_t_likes, .int t_sights, .ref q_t_sight, .int t_signs, .ref q_t_pad, .ref q_t_then, .int t_worseAt, .int t_worseWho, .int t_hours, .ref q_t_ahead, .int t_reason, .int t_acts, .ref q_t_most, .ref q_t_worth, .ref q_t_damp, .ref q_t_next, .ref q_t_image, .ref q_t_isKept])), (q_t_now, .inl (G 0, 26, .inl a0_)), (q_t_does, .inl (G 0, 12, .inl t_does)), (q_t_bad, .inl (G 0, 36, .inl t_bad)), (q_t_then, .inl (G 0, 18, .inl a1_))] → va_S A s.heap H locs → W p l e (kR 2 81) s m args below meth c H locs 0 0 Q (F0 m pc ls []) := by
    intro a0_ a1_ hy; obtain ⟨rfl, rfl⟩ := sm2 hy
    exact RET
  have hown : s.vm.findClass RX8 = some m.cls := hown
  have hl : lv_has ls 6 [(0, .ref q_t)] := hl
  clear RET
  rw [fX8_hour] at hf
  refine lv_iconst (v := (0 : Int32)) hx hb dX8_hour_0 (by decide) ?_
  refine lv_istore_n (lv' := [(1, .int (0 : Int32)), (0, .ref q_t)]) hx hb dX8_hour_1 rfl hl (by decide) rfl (fun ls hl => ?_)
  obtain ⟨u315, h319, hf⟩ := bd1E hf
  have E316 : ∀ (z621 : Nat → Int32), some z621 = some u315 → ∀ (H : Heap) (locs : List Loc), va_P D vwCl [(q_t, .inr (8, [.int t_there, .ref q_t_book, .ref q_t_now, .ref q_t_does, .ref q_t_bad, .ref q_t_likes, .int t_sights, .ref q_t_sight, .int t_signs, .ref q_t_pad, .ref q_t_then, .int t_worseAt, .int t_worseWho, .int t_hours, .ref q_t_ahead, .int t_reason, .int t_acts, .ref q_t_most, .ref q_t_worth, .ref q_t_damp, .ref q_t_next, .ref q_t_image, .ref q_t_isKept])), (q_t_now, .inl (G 0, 26, .inl t_now)), (q_t_does, .inl (G 0, 12, .inl t_does)), (q_t_bad, .inl (G 0, 36, .inl t_bad)), (q_t_then, .inl (G 0, 18, .inl z621))] H → va_D A [(q_t, .inr (8, [.int t_there, .ref q_t_book, .ref q_t_now, .ref q_t_does, .ref q_t_bad, .ref q_t_likes, .int t_sights, .ref q_t_sight, .int t_signs, .ref q_t_pad, .ref q_t_then, .int t_worseAt, .int t_worseWho, .int t_hours, .ref q_t_ahead, .int t_reason, .int t_acts, .ref q_t_most, .ref q_t_worth, .ref q_t_damp, .ref q_t_next, .ref q_t_image, .ref q_t_isKept])), (q_t_now, .inl (G 0, 26, .inl t_now)), (q_t_does, .inl (G 0, 12, .inl t_does)), (q_t_bad, .inl (G 0, 36, .inl t_bad)), (q_t_then, .inl (G 0, 18, .inl z621))] → va_S A s.heap H locs → ∀ ls : Array Slot, lv_has ls 6 [(0, .ref q_t)] → W p l e (kR 2 81) s m args below meth c H locs 0 0 Q (F0 m 197 ls []) := by
    intro z621 hy; obtain rfl := sm1 hy
    intro H locs hP hD hS ls hl
    refine lv_iconst (v := (0 : Int32)) hx hb dX8_hour_197 (by decide) ?_
    refine lv_istore_n (lv' := [(1, .int (0 : Int32)), (0, .ref q_t)]) hx hb dX8_hour_198 rfl hl (by decide) rfl (fun ls hl => ?_)
    obtain ⟨u652, h656, hf⟩ := bd1E hf
    have E653 : ∀ (z674 : Nat → Int32), some z674 = some u652 → ∀ (H : Heap) (locs : List Loc), va_P D vwCl [(q_t, .inr (8, [.int t_there, .ref q_t_book, .ref q_t_now, .ref q_t_does, .ref q_t_bad, .ref q_t_likes, .int t_sights, .ref q_t_sight, .int t_signs, .ref q_t_pad, .ref q_t_then, .int t_worseAt, .int t_worseWho, .int t_hours, .ref q_t_ahead, .int t_reason, .int t_acts, .ref q_t_most, .ref q_t_worth, .ref q_t_damp, .ref q_t_next, .ref q_t_image, .ref q_t_isKept])), (q_t_now, .inl (G 0, 26, .inl z674)), (q_t_does, .inl (G 0, 12, .inl t_does)), (q_t_bad, .inl (G 0, 36, .inl t_bad)), (q_t_then, .inl (G 0, 18, .inl z621))] H → va_D A [(q_t, .inr (8, [.int t_there, .ref q_t_book, .ref q_t_now, .ref q_t_does, .ref q_t_bad, .ref q_t_likes, .int t_sights, .ref q_t_sight, .int t_signs, .ref q_t_pad, .ref q_t_then, .int t_worseAt, .int t_worseWho, .int t_hours, .ref q_t_ahead, .int t_reason, .int t_acts, .ref q_t_most, .ref q_t_worth, .ref q_t_damp, .ref q_t_next, .ref q_t_image, .ref q_t_isKept])), (q_t_now, .inl (G 0, 26, .inl z674)), (q_t_does, .inl (G 0, 12, .inl t_does)), (q_t_bad, .inl (G 0, 36, .inl t_bad)), (q_t_then, .inl (G 0, 18, .inl z621))] → va_S A s.heap H locs → ∀ ls : Array Slot, lv_has ls 6 [(0, .ref q_t)] → W p l e (kR 2 81) s m args below meth c H locs 0 0 Q (F0 m 245 ls []) := by
      intro z674 hy; obtain rfl := sm1 hy
      intro H locs hP hD hS ls hl
      refine lv_aload_n hx hb dX8_hour_245 rfl (lv_at hl 0 rfl) ?_
      refine va_get (D := D) (ci := 8) (v := .ref q_t_now) (C := RX8) (T := TX8) (N := 23) hx hb hts inX8 hown hK hP 0 rfl rfl 2 (by decide) (hts _ lfX8_13) (fun _ h9 => h9) rfl dX8_hour_246 ?_
      refine lv_bipush (v := (24 : Int32)) hx hb dX8_hour_249 (by decide) ?_
      refine lv_iconst (v := (0 : Int32)) hx hb dX8_hour_251 (by decide) ?_
      obtain ⟨g675, eg675, ig675, hf⟩ := stIE hf
      refine k_iast hx hb hK hP hD hS 1 0 rfl rfl ig675 eg675 dX8_hour_252 (fun H locs hP hD hS => ?_)
      have hP : va_P D vwCl [(q_t, .inr (8, [.int t_there, .ref q_t_book, .ref q_t_now, .ref q_t_does, .ref q_t_bad, .ref q_t_likes, .int t_sights, .ref q_t_sight, .int t_signs, .ref q_t_pad, .ref q_t_then, .int t_worseAt, .int t_worseWho, .int t_hours, .ref q_t_ahead, .int t_reason, .int t_acts, .ref q_t_most, .ref q_t_worth, .ref q_t_damp, .ref q_t_next, .ref q_t_image, .ref q_t_isKept])), (q_t_now, .inl (G 0, 26, .inl g675)), (q_t_does, .inl (G 0, 12, .inl t_does)), (q_t_bad, .inl (G 0, 36, .inl t_bad)), (q_t_then, .inl (G 0, 18, .inl z621))] H := hP
      have hD : va_D A [(q_t, .inr (8, [.int t_there, .ref q_t_book, .ref q_t_now, .ref q_t_does, .ref q_t_bad, .ref q_t_likes, .int t_sights, .ref q_t_sight, .int t_signs, .ref q_t_pad, .ref q_t_then, .int t_worseAt, .int t_worseWho, .int t_hours, .ref q_t_ahead, .int t_reason, .int t_acts, .ref q_t_most, .ref q_t_worth, .ref q_t_damp, .ref q_t_next, .ref q_t_image, .ref q_t_isKept])), (q_t_now, .inl (G 0, 26, .inl g675)), (q_t_does, .inl (G 0, 12, .inl t_does)), (q_t_bad, .inl (G 0, 36, .inl t_bad)), (q_t_then, .inl (G 0, 18, .inl z621))] := hD
      exact RT _ _ hf _ _ _ H locs dX8_hour_253 rkV hP hD hS
    have L654 : ∀ (k : Nat) (w650 : Int32) (w651 : Nat → Int32), fX8_hour_199 t_there z621 k w650 w651 = some u652 → ∀ (H : Heap) (locs : List Loc), va_P D vwCl [(q_t, .inr (8, [.int t_there, .ref q_t_book, .ref q_t_now, .ref q_t_does, .ref q_t_bad, .ref q_t_likes, .int t_sights, .ref q_t_sight, .int t_signs, .ref q_t_pad, .ref q_t_then, .int t_worseAt, .int t_worseWho, .int t_hours, .ref q_t_ahead, .int t_reason, .int t_acts, .ref q_t_most, .ref q_t_worth, .ref q_t_damp, .ref q_t_next, .ref q_t_image, .ref q_t_isKept])), (q_t_now, .inl (G 0, 26, .inl w651)), (q_t_does, .inl (G 0, 12, .inl t_does)), (q_t_bad, .inl (G 0, 36, .inl t_bad)), (q_t_then, .inl (G 0, 18, .inl z621))] H → va_D A [(q_t, .inr (8, [.int t_there, .ref q_t_book, .ref q_t_now, .ref q_t_does, .ref q_t_bad, .ref q_t_likes, .int t_sights, .ref q_t_sight, .int t_signs, .ref q_t_pad, .ref q_t_then, .int t_worseAt, .int t_worseWho, .int t_hours, .ref q_t_ahead, .int t_reason, .int t_acts, .ref q_t_most, .ref q_t_worth, .ref q_t_damp, .ref q_t_next, .ref q_t_image, .ref q_t_isKept])), (q_t_now, .inl (G 0, 26, .inl w651)), (q_t_does, .inl (G 0, 12, .inl t_does)), (q_t_bad, .inl (G 0, 36, .inl t_bad)), (q_t_then, .inl (G 0, 18, .inl z621))] → va_S A s.heap H locs → ∀ ls : Array Slot, lv_has ls 6 [(0, .ref q_t), (1, .int w650)] → W p l e (kR 2 81) s m args below meth c H locs 0 0 Q (F0 m 199 ls []) := by
      intro k; induction k with
      | zero => intro w650 w651 hf; exact nosome hf
      | succ k ih =>
        intro w650 w651 hf; rw [fX8_hour_199] at hf
        intro H locs hP hD hS ls hl
        refine lv_iload_n hx hb dX8_hour_199 rfl (lv_at hl 1 rfl) ?_
        refine lv_bipush (v := (18 : Int32)) hx hb dX8_hour_200 (by decide) ?_
        refine lv_icmp_ge (tgt := 245) hx hb dX8_hour_202 (by decide) (fun c659 => ?_) (fun c659 => ?_)
        · have hf := ifp c659 hf
          exact E653 _ hf H locs hP hD hS ls (lv_sub hl [0] rfl)
        · have hf := ifn c659 hf
          refine lv_aload_n hx hb dX8_hour_205 rfl (lv_at hl 0 rfl) ?_
          refine va_get (D := D) (ci := 8) (v := .ref q_t_now) (C := RX8) (T := TX8) (N := 23) hx hb hts inX8 hown hK hP 0 rfl rfl 2 (by decide) (hts _ lfX8_13) (fun _ h9 => h9) rfl dX8_hour_206 ?_
          refine lv_iload_n hx hb dX8_hour_209 rfl (lv_at hl 1 rfl) ?_
          refine lv_aload_n hx hb dX8_hour_210 rfl (lv_at hl 0 rfl) ?_
          refine va_get (D := D) (ci := 8) (v := .int t_there) (C := RX8) (T := TX8) (N := 23) hx hb hts inX8 hown hK hP 0 rfl rfl 0 (by decide) (hts _ lfX8_57) (fun _ h9 => h9) rfl dX8_hour_211 ?_
          refine lv_iload_n hx hb dX8_hour_214 rfl (lv_at hl 1 rfl) ?_
          refine lv_iconst (v := (3 : Int32)) hx hb dX8_hour_215 (by decide) ?_
          refine lv_idiv hx hb dX8_hour_216 (by decide) ?_
          obtain ⟨r660, h661, hf⟩ := bd1E hf
          refine kO_stat hx hb hml hown hts hK hn hP (kX8_has l D G t_there (w650 / (3 : Int32)) h661) csX8_65 ⟨Nat.le_of_ble_eq_true rfl, Nat.le_of_ble_eq_true rfl⟩ [] rfl rfl hl.1 rfl (Nat.le_of_ble_eq_true rfl) ⟨Nat.zero_le _, Nat.zero_le _⟩ dX8_hour_217 ?_
          obtain ⟨j665, h673, hf⟩ := bd1E hf
          have E669 : ∀ (z666 : Int32), some z666 = some j665 → ∀ (H : Heap) (locs : List Loc), va_P D vwCl [(q_t, .inr (8, [.int t_there, .ref q_t_book, .ref q_t_now, .ref q_t_does, .ref q_t_bad, .ref q_t_likes, .int t_sights, .ref q_t_sight, .int t_signs, .ref q_t_pad, .ref q_t_then, .int t_worseAt, .int t_worseWho, .int t_hours, .ref q_t_ahead, .int t_reason, .int t_acts, .ref q_t_most, .ref q_t_worth, .ref q_t_damp, .ref q_t_next, .ref q_t_image, .ref q_t_isKept])), (q_t_now, .inl (G 0, 26, .inl w651)), (q_t_does, .inl (G 0, 12, .inl t_does)), (q_t_bad, .inl (G 0, 36, .inl t_bad)), (q_t_then, .inl (G 0, 18, .inl z621))] H → va_D A [(q_t, .inr (8, [.int t_there, .ref q_t_book, .ref q_t_now, .ref q_t_does, .ref q_t_bad, .ref q_t_likes, .int t_sights, .ref q_t_sight, .int t_signs, .ref q_t_pad, .ref q_t_then, .int t_worseAt, .int t_worseWho, .int t_hours, .ref q_t_ahead, .int t_reason, .int t_acts, .ref q_t_most, .ref q_t_worth, .ref q_t_damp, .ref q_t_next, .ref q_t_image, .ref q_t_isKept])), (q_t_now, .inl (G 0, 26, .inl w651)), (q_t_does, .inl (G 0, 12, .inl t_does)), (q_t_bad, .inl (G 0, 36, .inl t_bad)), (q_t_then, .inl (G 0, 18, .inl z621))] → va_S A s.heap H locs → ∀ ls : Array Slot, lv_has ls 6 [(0, .ref q_t), (1, .int w650)] → W p l e (kR 2 81) s m args below meth c H locs 0 0 Q (F0 m 238 ls [.int z666, .int w650, .ref q_t_now]) := by
            intro z666 hy; obtain rfl := sm1 hy
            intro H locs hP hD hS ls hl
            obtain ⟨g667, eg667, ig667, hf⟩ := stIE hf
            refine k_iast hx hb hK hP hD hS 1 0 rfl rfl ig667 eg667 dX8_hour_238 (fun H locs hP hD hS => ?_)
            have hP : va_P D vwCl [(q_t, .inr (8, [.int t_there, .ref q_t_book, .ref q_t_now, .ref q_t_does, .ref q_t_bad, .ref q_t_likes, .int t_sights, .ref q_t_sight, .int t_signs, .ref q_t_pad, .ref q_t_then, .int t_worseAt, .int t_worseWho, .int t_hours, .ref q_t_ahead, .int t_reason, .int t_acts, .ref q_t_most, .ref q_t_worth, .ref q_t_damp, .ref q_t_next, .ref q_t_image, .ref q_t_isKept])), (q_t_now, .inl (G 0, 26, .inl g667)), (q_t_does, .inl (G 0, 12, .inl t_does)), (q_t_bad, .inl (G 0, 36, .inl t_bad)), (q_t_then, .inl (G 0, 18, .inl z621))] H := hP
            have hD : va_D A [(q_t, .inr (8, [.int t_there, .ref q_t_book, .ref q_t_now, .ref q_t_does, .ref q_t_bad, .ref q_t_likes, .int t_sights, .ref q_t_sight, .int t_signs, .ref q_t_pad, .ref q_t_then, .int t_worseAt, .int t_worseWho, .int t_hours, .ref q_t_ahead, .int t_reason, .int t_acts, .ref q_t_most, .ref q_t_worth, .ref q_t_damp, .ref q_t_next, .ref q_t_image, .ref q_t_isKept])), (q_t_now, .inl (G 0, 26, .inl g667)), (q_t_does, .inl (G 0, 12, .inl t_does)), (q_t_bad, .inl (G 0, 36, .inl t_bad)), (q_t_then, .inl (G 0, 18, .inl z621))] := hD
            obtain ⟨y668, ey668⟩ : ∃ y : Int32, y = w650 + (1 : Int32) := ⟨_, rfl⟩
            have hf := nmeU ey668 hf
            refine lv_iinc (v := y668) (lv' := [(1, .int y668), (0, .ref q_t)]) hx hb dX8_hour_239 hl (k := 1) rfl (by rw [ey668]; rfl) (by decide) rfl (fun ls hl => ?_)
            refine lv_goto (tgt := 199) hx hb dX8_hour_242 (by decide) ?_
            exact ih _ _ hf H locs hP hD hS ls (lv_sub hl [1, 0] rfl)
          have hf := h673
          refine lv_if_eq (tgt := 232) hx hb dX8_hour_220 (by decide) (fun c670 => ?_) (fun c670 => ?_)
          · have hf := ifp c670 hf
            refine lv_aload_n hx hb dX8_hour_232 rfl (lv_at hl 0 rfl) ?_
            refine va_get (D := D) (ci := 8) (v := .ref q_t_now) (C := RX8) (T := TX8) (N := 23) hx hb hts inX8 hown hK hP 0 rfl rfl 2 (by decide) (hts _ lfX8_13) (fun _ h9 => h9) rfl dX8_hour_233 ?_
            refine lv_iload_n hx hb dX8_hour_236 rfl (lv_at hl 1 rfl) ?_
            obtain ⟨x671, ex671, ix671, hf⟩ := ldIE hf
            refine k_iald hx hb hK hP 1 0 rfl rfl ix671 ex671 dX8_hour_237 ?_
            exact E669 _ hf H locs hP hD hS ls (lv_sub hl [0, 1] rfl)
          · have hf := ifn c670 hf
            refine lv_aload_n hx hb dX8_hour_223 rfl (lv_at hl 0 rfl) ?_
            refine va_get (D := D) (ci := 8) (v := .ref q_t_then) (C := RX8) (T := TX8) (N := 23) hx hb hts inX8 hown hK hP 0 rfl rfl 10 (by decide) (hts _ lfX8_31) (fun _ h9 => h9) rfl dX8_hour_224 ?_
            refine lv_iload_n hx hb dX8_hour_227 rfl (lv_at hl 1 rfl) ?_
            obtain ⟨x672, ex672, ix672, hf⟩ := ldIE hf
            refine k_iald hx hb hK hP 4 0 rfl rfl ix672 ex672 dX8_hour_228 ?_
            refine lv_goto (tgt := 238) hx hb dX8_hour_229 (by decide) ?_
            exact E669 _ hf H locs hP hD hS ls (lv_sub hl [0, 1] rfl)
    exact L654 fu (0 : Int32) t_now h656 H locs hP hD hS ls (lv_sub hl [1, 0] rfl)
  have L317 : ∀ (k : Nat) (w313 : Int32) (w314 : Nat → Int32), fX8_hour_2 fu t_now t_there t_bad t_does k w313 w314 = some u315 → ∀ (H : Heap) (locs : List Loc), va_P D vwCl [(q_t, .inr (8, [.int t_there, .ref q_t_book, .ref q_t_now, .ref q_t_does, .ref q_t_bad, .ref q_t_likes, .int t_sights, .ref q_t_sight, .int t_signs, .ref q_t_pad, .ref q_t_then, .int t_worseAt, .int t_worseWho, .int t_hours, .ref q_t_ahead, .int t_reason, .int t_acts, .ref q_t_most, .ref q_t_worth, .ref q_t_damp, .ref q_t_next, .ref q_t_image, .ref q_t_isKept])), (q_t_now, .inl (G 0, 26, .inl t_now)), (q_t_does, .inl (G 0, 12, .inl t_does)), (q_t_bad, .inl (G 0, 36, .inl t_bad)), (q_t_then, .inl (G 0, 18, .inl w314))] H → va_D A [(q_t, .inr (8, [.int t_there, .ref q_t_book, .ref q_t_now, .ref q_t_does, .ref q_t_bad, .ref q_t_likes, .int t_sights, .ref q_t_sight, .int t_signs, .ref q_t_pad, .ref q_t_then, .int t_worseAt, .int t_worseWho, .int t_hours, .ref q_t_ahead, .int t_reason, .int t_acts, .ref q_t_most, .ref q_t_worth, .ref q_t_damp, .ref q_t_next, .ref q_t_image, .ref q_t_isKept])), (q_t_now, .inl (G 0, 26, .inl t_now)), (q_t_does, .inl (G 0, 12, .inl t_does)), (q_t_bad, .inl (G 0, 36, .inl t_bad)), (q_t_then, .inl (G 0, 18, .inl w314))] → va_S A s.heap H locs → ∀ ls : Array Slot, lv_has ls 6 [(0, .ref q_t), (1, .int w313)] → W p l e (kR 2 81) s m args below meth c H locs 0 0 Q (F0 m 2 ls []) := by
    intro k; induction k with
    | zero => intro w313 w314 hf; exact nosome hf
    | succ k ih =>
      intro w313 w314 hf; rw [fX8_hour_2] at hf
      intro H locs hP hD hS ls hl
      refine lv_iload_n hx hb dX8_hour_2 rfl (lv_at hl 1 rfl) ?_
      refine lv_bipush (v := (6 : Int32)) hx hb dX8_hour_3 (by decide) ?_
      refine lv_icmp_ge (tgt := 197) hx hb dX8_hour_5 (by decide) (fun c322 => ?_) (fun c322 => ?_)
      · have hf := ifp c322 hf
        exact E316 _ hf H locs hP hD hS ls (lv_sub hl [0] rfl)
      · have hf := ifn c322 hf
        refine lv_aload_n hx hb dX8_hour_8 rfl (lv_at hl 0 rfl) ?_
        refine va_get (D := D) (ci := 8) (v := .ref q_t_now) (C := RX8) (T := TX8) (N := 23) hx hb hts inX8 hown hK hP 0 rfl rfl 2 (by decide) (hts _ lfX8_13) (fun _ h9 => h9) rfl dX8_hour_9 ?_
        refine lv_bipush (v := (18 : Int32)) hx hb dX8_hour_12 (by decide) ?_
        refine lv_iload_n hx hb dX8_hour_14 rfl (lv_at hl 1 rfl) ?_
        refine lv_iadd hx hb dX8_hour_15 ?_
        obtain ⟨x323, ex323, ix323, hf⟩ := ldIE hf
        refine k_iald hx hb hK hP 1 0 rfl rfl ix323 ex323 dX8_hour_16 ?_
        refine lv_istore_n (lv' := [(2, .int x323), (0, .ref q_t), (1, .int w313)]) hx hb dX8_hour_17 rfl hl (by decide) rfl (fun ls hl => ?_)
        refine lv_iconst (v := (0 : Int32)) hx hb dX8_hour_18 (by decide) ?_
        refine lv_istore_n (lv' := [(3, .int (0 : Int32)), (2, .int x323), (0, .ref q_t), (1, .int w313)]) hx hb dX8_hour_19 rfl hl (by decide) rfl (fun ls hl => ?_)
        refine lv_iconst (v := (0 : Int32)) hx hb dX8_hour_20 (by decide) ?_
        refine lv_istore (lv' := [(4, .int (0 : Int32)), (3, .int (0 : Int32)), (2, .int x323), (0, .ref q_t), (1, .int w313)]) hx hb dX8_hour_21 hl (by decide) rfl (fun ls hl => ?_)
        obtain ⟨u403, h407, hf⟩ := bd1E hf
        have E404 : ∀ (z471 : Int32), some z471 = some u403 → ∀ (H : Heap) (locs : List Loc), va_P D vwCl [(q_t, .inr (8, [.int t_there, .ref q_t_book, .ref q_t_now, .ref q_t_does, .ref q_t_bad, .ref q_t_likes, .int t_sights, .ref q_t_sight, .int t_signs, .ref q_t_pad, .ref q_t_then, .int t_worseAt, .int t_worseWho, .int t_hours, .ref q_t_ahead, .int t_reason, .int t_acts, .ref q_t_most, .ref q_t_worth, .ref q_t_damp, .ref q_t_next, .ref q_t_image, .ref q_t_isKept])), (q_t_now, .inl (G 0, 26, .inl t_now)), (q_t_does, .inl (G 0, 12, .inl t_does)), (q_t_bad, .inl (G 0, 36, .inl t_bad)), (q_t_then, .inl (G 0, 18, .inl w314))] H → va_D A [(q_t, .inr (8, [.int t_there, .ref q_t_book, .ref q_t_now, .ref q_t_does, .ref q_t_bad, .ref q_t_likes, .int t_sights, .ref q_t_sight, .int t_signs, .ref q_t_pad, .ref q_t_then, .int t_worseAt, .int t_worseWho, .int t_hours, .ref q_t_ahead, .int t_reason, .int t_acts, .ref q_t_most, .ref q_t_worth, .ref q_t_damp, .ref q_t_next, .ref q_t_image, .ref q_t_isKept])), (q_t_now, .inl (G 0, 26, .inl t_now)), (q_t_does, .inl (G 0, 12, .inl t_does)), (q_t_bad, .inl (G 0, 36, .inl t_bad)), (q_t_then, .inl (G 0, 18, .inl w314))] → va_S A s.heap H locs → ∀ ls : Array Slot, lv_has ls 6 [(0, .ref q_t), (1, .int w313), (2, .int x323), (3, .int z471)] → W p l e (kR 2 81) s m args below meth c H locs 0 0 Q (F0 m 87 ls []) := by
          intro z471 hy; obtain rfl := sm1 hy
          intro H locs hP hD hS ls hl
          refine lv_iconst (v := (0 : Int32)) hx hb dX8_hour_87 (by decide) ?_
          refine lv_istore (lv' := [(4, .int (0 : Int32)), (0, .ref q_t), (1, .int w313), (2, .int x323), (3, .int z471)]) hx hb dX8_hour_88 hl (by decide) rfl (fun ls hl => ?_)
          obtain ⟨u551, h555, hf⟩ := bd1E hf
          have E552 : ∀ (z619 : Nat → Int32), some z619 = some u551 → ∀ (H : Heap) (locs : List Loc), va_P D vwCl [(q_t, .inr (8, [.int t_there, .ref q_t_book, .ref q_t_now, .ref q_t_does, .ref q_t_bad, .ref q_t_likes, .int t_sights, .ref q_t_sight, .int t_signs, .ref q_t_pad, .ref q_t_then, .int t_worseAt, .int t_worseWho, .int t_hours, .ref q_t_ahead, .int t_reason, .int t_acts, .ref q_t_most, .ref q_t_worth, .ref q_t_damp, .ref q_t_next, .ref q_t_image, .ref q_t_isKept])), (q_t_now, .inl (G 0, 26, .inl t_now)), (q_t_does, .inl (G 0, 12, .inl t_does)), (q_t_bad, .inl (G 0, 36, .inl t_bad)), (q_t_then, .inl (G 0, 18, .inl z619))] H → va_D A [(q_t, .inr (8, [.int t_there, .ref q_t_book, .ref q_t_now, .ref q_t_does, .ref q_t_bad, .ref q_t_likes, .int t_sights, .ref q_t_sight, .int t_signs, .ref q_t_pad, .ref q_t_then, .int t_worseAt, .int t_worseWho, .int t_hours, .ref q_t_ahead, .int t_reason, .int t_acts, .ref q_t_most, .ref q_t_worth, .ref q_t_damp, .ref q_t_next, .ref q_t_image, .ref q_t_isKept])), (q_t_now, .inl (G 0, 26, .inl t_now)), (q_t_does, .inl (G 0, 12, .inl t_does)), (q_t_bad, .inl (G 0, 36, .inl t_bad)), (q_t_then, .inl (G 0, 18, .inl z619))] → va_S A s.heap H locs → ∀ ls : Array Slot, lv_has ls 6 [(0, .ref q_t), (1, .int w313)] → W p l e (kR 2 81) s m args below meth c H locs 0 0 Q (F0 m 191 ls []) := by
            intro z619 hy; obtain rfl := sm1 hy
            intro H locs hP hD hS ls hl
            obtain ⟨y620, ey620⟩ : ∃ y : Int32, y = w313 + (1 : Int32) := ⟨_, rfl⟩
            have hf := nmeU ey620 hf
            refine lv_iinc (v := y620) (lv' := [(1, .int y620), (0, .ref q_t)]) hx hb dX8_hour_191 hl (k := 1) rfl (by rw [ey620]; rfl) (by decide) rfl (fun ls hl => ?_)
            refine lv_goto (tgt := 2) hx hb dX8_hour_194 (by decide) ?_
            exact ih _ _ hf H locs hP hD hS ls (lv_sub hl [1, 0] rfl)
          have L553 : ∀ (k : Nat) (w549 : Int32) (w550 : Nat → Int32), fX8_hour_90 t_now w313 t_does x323 z471 k w549 w550 = some u551 → ∀ (H : Heap) (locs : List Loc), va_P D vwCl [(q_t, .inr (8, [.int t_there, .ref q_t_book, .ref q_t_now, .ref q_t_does, .ref q_t_bad, .ref q_t_likes, .int t_sights, .ref q_t_sight, .int t_signs, .ref q_t_pad, .ref q_t_then, .int t_worseAt, .int t_worseWho, .int t_hours, .ref q_t_ahead, .int t_reason, .int t_acts, .ref q_t_most, .ref q_t_worth, .ref q_t_damp, .ref q_t_next, .ref q_t_image, .ref q_t_isKept])), (q_t_now, .inl (G 0, 26, .inl t_now)), (q_t_does, .inl (G 0, 12, .inl t_does)), (q_t_bad, .inl (G 0, 36, .inl t_bad)), (q_t_then, .inl (G 0, 18, .inl w550))] H → va_D A [(q_t, .inr (8, [.int t_there, .ref q_t_book, .ref q_t_now, .ref q_t_does, .ref q_t_bad, .ref q_t_likes, .int t_sights, .ref q_t_sight, .int t_signs, .ref q_t_pad, .ref q_t_then, .int t_worseAt, .int t_worseWho, .int t_hours, .ref q_t_ahead, .int t_reason, .int t_acts, .ref q_t_most, .ref q_t_worth, .ref q_t_damp, .ref q_t_next, .ref q_t_image, .ref q_t_isKept])), (q_t_now, .inl (G 0, 26, .inl t_now)), (q_t_does, .inl (G 0, 12, .inl t_does)), (q_t_bad, .inl (G 0, 36, .inl t_bad)), (q_t_then, .inl (G 0, 18, .inl w550))] → va_S A s.heap H locs → ∀ ls : Array Slot, lv_has ls 6 [(0, .ref q_t), (1, .int w313), (2, .int x323), (3, .int z471), (4, .int w549)] → W p l e (kR 2 81) s m args below meth c H locs 0 0 Q (F0 m 90 ls []) := by
            intro k; induction k with
            | zero => intro w549 w550 hf; exact nosome hf
            | succ k ih =>
              intro w549 w550 hf; rw [fX8_hour_90] at hf
              intro H locs hP hD hS ls hl
              refine lv_iload hx hb dX8_hour_90 (lv_at hl 4 rfl) ?_
              refine lv_iconst (v := (3 : Int32)) hx hb dX8_hour_92 (by decide) ?_
              refine lv_icmp_ge (tgt := 191) hx hb dX8_hour_93 (by decide) (fun c558 => ?_) (fun c558 => ?_)
              · have hf := ifp c558 hf
                exact E552 _ hf H locs hP hD hS ls (lv_sub hl [0, 1] rfl)
              · have hf := ifn c558 hf
                refine lv_aload_n hx hb dX8_hour_96 rfl (lv_at hl 0 rfl) ?_
                refine va_get (D := D) (ci := 8) (v := .ref q_t_now) (C := RX8) (T := TX8) (N := 23) hx hb hts inX8 hown hK hP 0 rfl rfl 2 (by decide) (hts _ lfX8_13) (fun _ h9 => h9) rfl dX8_hour_97 ?_
                refine lv_iconst (v := (3 : Int32)) hx hb dX8_hour_100 (by decide) ?_
                refine lv_iload_n hx hb dX8_hour_101 rfl (lv_at hl 1 rfl) ?_
                refine lv_imul hx hb dX8_hour_102 ?_
                refine lv_iload hx hb dX8_hour_103 (lv_at hl 4 rfl) ?_
                refine lv_iadd hx hb dX8_hour_105 ?_
                obtain ⟨x559, ex559, ix559, hf⟩ := ldIE hf
                refine k_iald hx hb hK hP 1 0 rfl rfl ix559 ex559 dX8_hour_106 ?_
                refine lv_aload_n hx hb dX8_hour_107 rfl (lv_at hl 0 rfl) ?_
                refine va_get (D := D) (ci := 8) (v := .ref q_t_does) (C := RX8) (T := TX8) (N := 23) hx hb hts inX8 hown hK hP 0 rfl rfl 3 (by decide) (hts _ lfX8_16) (fun _ h9 => h9) rfl dX8_hour_108 ?_
                refine lv_iconst (v := (3 : Int32)) hx hb dX8_hour_111 (by decide) ?_
                refine lv_iload_n hx hb dX8_hour_112 rfl (lv_at hl 2 rfl) ?_
                refine lv_imul hx hb dX8_hour_113 ?_
                refine lv_iload hx hb dX8_hour_114 (lv_at hl 4 rfl) ?_
                refine lv_iadd hx hb dX8_hour_116 ?_
                obtain ⟨x560, ex560, ix560, hf⟩ := ldIE hf
                refine k_iald hx hb hK hP 2 0 rfl rfl ix560 ex560 dX8_hour_117 ?_
                refine lv_iadd hx hb dX8_hour_118 ?_
                refine lv_iload hx hb dX8_hour_119 (lv_at hl 4 rfl) ?_
                refine lv_iconst (v := (1 : Int32)) hx hb dX8_hour_121 (by decide) ?_
                obtain ⟨j562, h618, hf⟩ := bd1E hf
                have E616 : ∀ (z563 : Int32), some z563 = some j562 → ∀ (H : Heap) (locs : List Loc), va_P D vwCl [(q_t, .inr (8, [.int t_there, .ref q_t_book, .ref q_t_now, .ref q_t_does, .ref q_t_bad, .ref q_t_likes, .int t_sights, .ref q_t_sight, .int t_signs, .ref q_t_pad, .ref q_t_then, .int t_worseAt, .int t_worseWho, .int t_hours, .ref q_t_ahead, .int t_reason, .int t_acts, .ref q_t_most, .ref q_t_worth, .ref q_t_damp, .ref q_t_next, .ref q_t_image, .ref q_t_isKept])), (q_t_now, .inl (G 0, 26, .inl t_now)), (q_t_does, .inl (G 0, 12, .inl t_does)), (q_t_bad, .inl (G 0, 36, .inl t_bad)), (q_t_then, .inl (G 0, 18, .inl w550))] H → va_D A [(q_t, .inr (8, [.int t_there, .ref q_t_book, .ref q_t_now, .ref q_t_does, .ref q_t_bad, .ref q_t_likes, .int t_sights, .ref q_t_sight, .int t_signs, .ref q_t_pad, .ref q_t_then, .int t_worseAt, .int t_worseWho, .int t_hours, .ref q_t_ahead, .int t_reason, .int t_acts, .ref q_t_most, .ref q_t_worth, .ref q_t_damp, .ref q_t_next, .ref q_t_image, .ref q_t_isKept])), (q_t_now, .inl (G 0, 26, .inl t_now)), (q_t_does, .inl (G 0, 12, .inl t_does)), (q_t_bad, .inl (G 0, 36, .inl t_bad)), (q_t_then, .inl (G 0, 18, .inl w550))] → va_S A s.heap H locs → ∀ ls : Array Slot, lv_has ls 6 [(0, .ref q_t), (1, .int w313), (2, .int x323), (3, .int z471), (4, .int w549)] → W p l e (kR 2 81) s m args below meth c H locs 0 0 Q (F0 m 130 ls [.int z563, .int (x559 + x560)]) := by
                  intro z563 hy; obtain rfl := sm1 hy
                  intro H locs hP hD hS ls hl
                  refine lv_iadd hx hb dX8_hour_130 ?_
                  obtain ⟨r564, h565, hf⟩ := bd1E hf
                  refine kO_stat hx hb hml hown hts hK hn hP (kX8_clip l D G ((x559 + x560) + z563) h565) csX8_87 ⟨Nat.le_of_ble_eq_true rfl, Nat.le_of_ble_eq_true rfl⟩ [] rfl rfl hl.1 rfl (Nat.le_of_ble_eq_true rfl) ⟨Nat.zero_le _, Nat.zero_le _⟩ dX8_hour_131 ?_
                  refine lv_istore (lv' := [(5, .int r564), (0, .ref q_t), (1, .int w313), (2, .int x323), (3, .int z471), (4, .int w549)]) hx hb dX8_hour_134 hl (by decide) rfl (fun ls hl => ?_)
                  refine lv_aload_n hx hb dX8_hour_136 rfl (lv_at hl 1 rfl) ?_
                  refine va_get (D := D) (ci := 8) (v := .ref q_t_then) (C := RX8) (T := TX8) (N := 23) hx hb hts inX8 hown hK hP 0 rfl rfl 10 (by decide) (hts _ lfX8_31) (fun _ h9 => h9) rfl dX8_hour_137 ?_
                  refine lv_iconst (v := (3 : Int32)) hx hb dX8_hour_140 (by decide) ?_
                  refine lv_iload_n hx hb dX8_hour_141 rfl (lv_at hl 2 rfl) ?_
                  refine lv_imul hx hb dX8_hour_142 ?_
                  refine lv_iload hx hb dX8_hour_143 (lv_at hl 5 rfl) ?_
                  refine lv_iadd hx hb dX8_hour_145 ?_
                  refine lv_iload hx hb dX8_hour_146 (lv_at hl 5 rfl) ?_
                  obtain ⟨j588, h615, hf⟩ := bd1E hf
                  have E592 : ∀ (z589 : Int32), some z589 = some j588 → ∀ (H : Heap) (locs : List Loc), va_P D vwCl [(q_t, .inr (8, [.int t_there, .ref q_t_book, .ref q_t_now, .ref q_t_does, .ref q_t_bad, .ref q_t_likes, .int t_sights, .ref q_t_sight, .int t_signs, .ref q_t_pad, .ref q_t_then, .int t_worseAt, .int t_worseWho, .int t_hours, .ref q_t_ahead, .int t_reason, .int t_acts, .ref q_t_most, .ref q_t_worth, .ref q_t_damp, .ref q_t_next, .ref q_t_image, .ref q_t_isKept])), (q_t_now, .inl (G 0, 26, .inl t_now)), (q_t_does, .inl (G 0, 12, .inl t_does)), (q_t_bad, .inl (G 0, 36, .inl t_bad)), (q_t_then, .inl (G 0, 18, .inl w550))] H → va_D A [(q_t, .inr (8, [.int t_there, .ref q_t_book, .ref q_t_now, .ref q_t_does, .ref q_t_bad, .ref q_t_likes, .int t_sights, .ref q_t_sight, .int t_signs, .ref q_t_pad, .ref q_t_then, .int t_worseAt, .int t_worseWho, .int t_hours, .ref q_t_ahead, .int t_reason, .int t_acts, .ref q_t_most, .ref q_t_worth, .ref q_t_damp, .ref q_t_next, .ref q_t_image, .ref q_t_isKept])), (q_t_now, .inl (G 0, 26, .inl t_now)), (q_t_does, .inl (G 0, 12, .inl t_does)), (q_t_bad, .inl (G 0, 36, .inl t_bad)), (q_t_then, .inl (G 0, 18, .inl w550))] → va_S A s.heap H locs → ∀ ls : Array Slot, lv_has ls 6 [(0, .ref q_t), (1, .int w313), (2, .int x323), (3, .int z471), (4, .int w549)] → W p l e (kR 2 81) s m args below meth c H locs 0 0 Q (F0 m 184 ls [.int z589, .int (((3 : Int32) * w313) + w549), .ref q_t_then]) := by
                    intro z589 hy; obtain rfl := sm1 hy
                    intro H locs hP hD hS ls hl
                    obtain ⟨g590, eg590, ig590, hf⟩ := stIE hf
                    refine k_iast hx hb hK hP hD hS 4 0 rfl rfl ig590 eg590 dX8_hour_184 (fun H locs hP hD hS => ?_)
                    have hP : va_P D vwCl [(q_t, .inr (8, [.int t_there, .ref q_t_book, .ref q_t_now, .ref q_t_does, .ref q_t_bad, .ref q_t_likes, .int t_sights, .ref q_t_sight, .int t_signs, .ref q_t_pad, .ref q_t_then, .int t_worseAt, .int t_worseWho, .int t_hours, .ref q_t_ahead, .int t_reason, .int t_acts, .ref q_t_most, .ref q_t_worth, .ref q_t_damp, .ref q_t_next, .ref q_t_image, .ref q_t_isKept])), (q_t_now, .inl (G 0, 26, .inl t_now)), (q_t_does, .inl (G 0, 12, .inl t_does)), (q_t_bad, .inl (G 0, 36, .inl t_bad)), (q_t_then, .inl (G 0, 18, .inl g590))] H := hP
                    have hD : va_D A [(q_t, .inr (8, [.int t_there, .ref q_t_book, .ref q_t_now, .ref q_t_does, .ref q_t_bad, .ref q_t_likes, .int t_sights, .ref q_t_sight, .int t_signs, .ref q_t_pad, .ref q_t_then, .int t_worseAt, .int t_worseWho, .int t_hours, .ref q_t_ahead, .int t_reason, .int t_acts, .ref q_t_most, .ref q_t_worth, .ref q_t_damp, .ref q_t_next, .ref q_t_image, .ref q_t_isKept])), (q_t_now, .inl (G 0, 26, .inl t_now)), (q_t_does, .inl (G 0, 12, .inl t_does)), (q_t_bad, .inl (G 0, 36, .inl t_bad)), (q_t_then, .inl (G 0, 18, .inl g590))] := hD
                    obtain ⟨y591, ey591⟩ : ∃ y : Int32, y = w549 + (1 : Int32) := ⟨_, rfl⟩
                    have hf := nmeU ey591 hf
                    refine lv_iinc (v := y591) (lv' := [(4, .int y591), (0, .ref q_t), (1, .int w313), (2, .int x323), (3, .int z471)]) hx hb dX8_hour_185 hl (k := 4) rfl (by rw [ey591]; rfl) (by decide) rfl (fun ls hl => ?_)
                    refine lv_goto (tgt := 90) hx hb dX8_hour_188 (by decide) ?_
                    exact ih _ _ hf H locs hP hD hS ls (lv_sub hl [1, 2, 3, 4, 0] rfl)
                  have hf := h615
                  refine lv_if_ne (tgt := 182) hx hb dX8_hour_148 (by decide) (fun c593 => ?_) (fun c593 => ?_)
                  · have hf := ifn c593 hf
                    refine lv_iload hx hb dX8_hour_182 (lv_at hl 0 rfl) ?_
                    exact E592 _ hf H locs hP hD hS ls (lv_sub hl [1, 2, 3, 4, 5] rfl)
                  · have hf := ifp c593 hf
                    refine lv_aload_n hx hb dX8_hour_151 rfl (lv_at hl 1 rfl) ?_
                    refine va_get (D := D) (ci := 8) (v := .ref q_t_now) (C := RX8) (T := TX8) (N := 23) hx hb hts inX8 hown hK hP 0 rfl rfl 2 (by decide) (hts _ lfX8_13) (fun _ h9 => h9) rfl dX8_hour_152 ?_
                    refine lv_bipush (v := (24 : Int32)) hx hb dX8_hour_155 (by decide) ?_
                    obtain ⟨x594, ex594, ix594, hf⟩ := ldIE hf
                    refine k_iald hx hb hK hP 1 0 rfl rfl ix594 ex594 dX8_hour_157 ?_
                    refine lv_iload_n hx hb dX8_hour_158 rfl (lv_at hl 2 rfl) ?_
                    obtain ⟨r595, h596, hf⟩ := bd1E hf
                    refine kO_stat hx hb hml hown hts hK hn hP (kX8_has l D G x594 w313 h596) csX8_65 ⟨Nat.le_of_ble_eq_true rfl, Nat.le_of_ble_eq_true rfl⟩ [] rfl rfl hl.1 rfl (Nat.le_of_ble_eq_true rfl) ⟨Nat.zero_le _, Nat.zero_le _⟩ dX8_hour_159 ?_
                    obtain ⟨j604, h614, hf⟩ := bd1E hf
                    have E606 : ∀ (z605 : Int32), some z605 = some j604 → ∀ (H : Heap) (locs : List Loc), va_P D vwCl [(q_t, .inr (8, [.int t_there, .ref q_t_book, .ref q_t_now, .ref q_t_does, .ref q_t_bad, .ref q_t_likes, .int t_sights, .ref q_t_sight, .int t_signs, .ref q_t_pad, .ref q_t_then, .int t_worseAt, .int t_worseWho, .int t_hours, .ref q_t_ahead, .int t_reason, .int t_acts, .ref q_t_most, .ref q_t_worth, .ref q_t_damp, .ref q_t_next, .ref q_t_image, .ref q_t_isKept])), (q_t_now, .inl (G 0, 26, .inl t_now)), (q_t_does, .inl (G 0, 12, .inl t_does)), (q_t_bad, .inl (G 0, 36, .inl t_bad)), (q_t_then, .inl (G 0, 18, .inl w550))] H → va_D A [(q_t, .inr (8, [.int t_there, .ref q_t_book, .ref q_t_now, .ref q_t_does, .ref q_t_bad, .ref q_t_likes, .int t_sights, .ref q_t_sight, .int t_signs, .ref q_t_pad, .ref q_t_then, .int t_worseAt, .int t_worseWho, .int t_hours, .ref q_t_ahead, .int t_reason, .int t_acts, .ref q_t_most, .ref q_t_worth, .ref q_t_damp, .ref q_t_next, .ref q_t_image, .ref q_t_isKept])), (q_t_now, .inl (G 0, 26, .inl t_now)), (q_t_does, .inl (G 0, 12, .inl t_does)), (q_t_bad, .inl (G 0, 36, .inl t_bad)), (q_t_then, .inl (G 0, 18, .inl w550))] → va_S A s.heap H locs → ∀ ls : Array Slot, lv_has ls 6 [(0, .ref q_t), (1, .int w313), (2, .int x323), (3, .int z471), (4, .int w549)] → W p l e (kR 2 81) s m args below meth c H locs 0 0 Q (F0 m 184 ls [.int z605, .int (((3 : Int32) * w313) + w549), .ref q_t_then]) := by
                      intro z605 hy; obtain rfl := sm1 hy
                      intro H locs hP hD hS ls hl
                      exact E592 _ hf H locs hP hD hS ls (lv_sub hl [0, 1, 2, 3, 4] rfl)
                    have hf := h614
                    refine lv_if_eq (tgt := 182) hx hb dX8_hour_162 (by decide) (fun c607 => ?_) (fun c607 => ?_)
                    · have hf := ifp c607 hf
                      refine lv_iload hx hb dX8_hour_182 (lv_at hl 0 rfl) ?_
                      exact E606 _ hf H locs hP hD hS ls (lv_sub hl [1, 2, 3, 4, 5] rfl)
                    · have hf := ifn c607 hf
                      refine lv_iload hx hb dX8_hour_165 (lv_at hl 0 rfl) ?_
                      refine lv_iconst (v := (2 : Int32)) hx hb dX8_hour_167 (by decide) ?_
                      obtain ⟨j609, h613, hf⟩ := bd1E hf
                      have E611 : ∀ (z610 : Int32), some z610 = some j609 → ∀ (H : Heap) (locs : List Loc), va_P D vwCl [(q_t, .inr (8, [.int t_there, .ref q_t_book, .ref q_t_now, .ref q_t_does, .ref q_t_bad, .ref q_t_likes, .int t_sights, .ref q_t_sight, .int t_signs, .ref q_t_pad, .ref q_t_then, .int t_worseAt, .int t_worseWho, .int t_hours, .ref q_t_ahead, .int t_reason, .int t_acts, .ref q_t_most, .ref q_t_worth, .ref q_t_damp, .ref q_t_next, .ref q_t_image, .ref q_t_isKept])), (q_t_now, .inl (G 0, 26, .inl t_now)), (q_t_does, .inl (G 0, 12, .inl t_does)), (q_t_bad, .inl (G 0, 36, .inl t_bad)), (q_t_then, .inl (G 0, 18, .inl w550))] H → va_D A [(q_t, .inr (8, [.int t_there, .ref q_t_book, .ref q_t_now, .ref q_t_does, .ref q_t_bad, .ref q_t_likes, .int t_sights, .ref q_t_sight, .int t_signs, .ref q_t_pad, .ref q_t_then, .int t_worseAt, .int t_worseWho, .int t_hours, .ref q_t_ahead, .int t_reason, .int t_acts, .ref q_t_most, .ref q_t_worth, .ref q_t_damp, .ref q_t_next, .ref q_t_image, .ref q_t_isKept])), (q_t_now, .inl (G 0, 26, .inl t_now)), (q_t_does, .inl (G 0, 12, .inl t_does)), (q_t_bad, .inl (G 0, 36, .inl t_bad)), (q_t_then, .inl (G 0, 18, .inl w550))] → va_S A s.heap H locs → ∀ ls : Array Slot, lv_has ls 6 [(0, .ref q_t), (1, .int w313), (2, .int x323), (3, .int z471), (4, .int w549)] → W p l e (kR 2 81) s m args below meth c H locs 0 0 Q (F0 m 184 ls [.int z610, .int (((3 : Int32) * w313) + w549), .ref q_t_then]) := by
                        intro z610 hy; obtain rfl := sm1 hy
                        intro H locs hP hD hS ls hl
                        exact E606 _ hf H locs hP hD hS ls (lv_sub hl [0, 1, 2, 3, 4] rfl)
                      have hf := h613
                      refine lv_icmp_ge (tgt := 175) hx hb dX8_hour_168 (by decide) (fun c612 => ?_) (fun c612 => ?_)
                      · have hf := ifp c612 hf
                        refine lv_iload hx hb dX8_hour_175 (lv_at hl 0 rfl) ?_
                        refine lv_iconst (v := (2 : Int32)) hx hb dX8_hour_177 (by decide) ?_
                        refine lv_isub hx hb dX8_hour_178 ?_
                        refine lv_goto (tgt := 184) hx hb dX8_hour_179 (by decide) ?_
                        exact E611 _ hf H locs hP hD hS ls (lv_sub hl [1, 2, 3, 4, 5] rfl)
                      · have hf := ifn c612 hf
                        refine lv_iconst (v := (0 : Int32)) hx hb dX8_hour_171 (by decide) ?_
                        refine lv_goto (tgt := 184) hx hb dX8_hour_172 (by decide) ?_
                        exact E611 _ hf H locs hP hD hS ls (lv_sub hl [1, 2, 3, 4, 5] rfl)
                have hf := h618
                refine lv_icmp_ne (tgt := 129) hx hb dX8_hour_122 (by decide) (fun c617 => ?_) (fun c617 => ?_)
                · have hf := ifn c617 hf
                  refine lv_iconst (v := (0 : Int32)) hx hb dX8_hour_129 (by decide) ?_
                  exact E616 _ hf H locs hP hD hS ls (lv_sub hl [0, 1, 2, 3, 4] rfl)
                · have hf := ifp c617 hf
                  refine lv_iload_n hx hb dX8_hour_125 rfl (lv_at hl 3 rfl) ?_
                  refine lv_goto (tgt := 130) hx hb dX8_hour_126 (by decide) ?_
                  exact E616 _ hf H locs hP hD hS ls (lv_sub hl [0, 1, 2, 3, 4] rfl)
          exact L553 fu (0 : Int32) w314 h555 H locs hP hD hS ls (lv_sub hl [1, 2, 3, 4, 0] rfl)
        have L405 : ∀ (k : Nat) (w401 : Int32) (w402 : Int32), fX8_hour_23 w313 t_there t_now x323 t_bad k w401 w402 = some u403 → ∀ (H : Heap) (locs : List Loc), va_P D vwCl [(q_t, .inr (8, [.int t_there, .ref q_t_book, .ref q_t_now, .ref q_t_does, .ref q_t_bad, .ref q_t_likes, .int t_sights, .ref q_t_sight, .int t_signs, .ref q_t_pad, .ref q_t_then, .int t_worseAt, .int t_worseWho, .int t_hours, .ref q_t_ahead, .int t_reason, .int t_acts, .ref q_t_most, .ref q_t_worth, .ref q_t_damp, .ref q_t_next, .ref q_t_image, .ref q_t_isKept])), (q_t_now, .inl (G 0, 26, .inl t_now)), (q_t_does, .inl (G 0, 12, .inl t_does)), (q_t_bad, .inl (G 0, 36, .inl t_bad)), (q_t_then, .inl (G 0, 18, .inl w314))] H → va_D A [(q_t, .inr (8, [.int t_there, .ref q_t_book, .ref q_t_now, .ref q_t_does, .ref q_t_bad, .ref q_t_likes, .int t_sights, .ref q_t_sight, .int t_signs, .ref q_t_pad, .ref q_t_then, .int t_worseAt, .int t_worseWho, .int t_hours, .ref q_t_ahead, .int t_reason, .int t_acts, .ref q_t_most, .ref q_t_worth, .ref q_t_damp, .ref q_t_next, .ref q_t_image, .ref q_t_isKept])), (q_t_now, .inl (G 0, 26, .inl t_now)), (q_t_does, .inl (G 0, 12, .inl t_does)), (q_t_bad, .inl (G 0, 36, .inl t_bad)), (q_t_then, .inl (G 0, 18, .inl w314))] → va_S A s.heap H locs → ∀ ls : Array Slot, lv_has ls 6 [(0, .ref q_t), (1, .int w313), (2, .int x323), (3, .int w401), (4, .int w402)] → W p l e (kR 2 81) s m args below meth c H locs 0 0 Q (F0 m 23 ls []) := by
          intro k; induction k with
          | zero => intro w401 w402 hf; exact nosome hf
          | succ k ih =>
            intro w401 w402 hf; rw [fX8_hour_23] at hf
            intro H locs hP hD hS ls hl
            refine lv_iload hx hb dX8_hour_23 (lv_at hl 4 rfl) ?_
            refine lv_bipush (v := (6 : Int32)) hx hb dX8_hour_25 (by decide) ?_
            refine lv_icmp_ge (tgt := 87) hx hb dX8_hour_27 (by decide) (fun c410 => ?_) (fun c410 => ?_)
            · have hf := ifp c410 hf
              exact E404 _ hf H locs hP hD hS ls (lv_sub hl [0, 1, 2, 3] rfl)
            · have hf := ifn c410 hf
              refine lv_iload_n hx hb dX8_hour_30 rfl (lv_at hl 3 rfl) ?_
              refine lv_iload hx hb dX8_hour_31 (lv_at hl 4 rfl) ?_
              refine lv_iload_n hx hb dX8_hour_33 rfl (lv_at hl 1 rfl) ?_
              obtain ⟨j438, h470, hf⟩ := bd1E hf
              have E442 : ∀ (z439 : Int32), some z439 = some j438 → ∀ (H : Heap) (locs : List Loc), va_P D vwCl [(q_t, .inr (8, [.int t_there, .ref q_t_book, .ref q_t_now, .ref q_t_does, .ref q_t_bad, .ref q_t_likes, .int t_sights, .ref q_t_sight, .int t_signs, .ref q_t_pad, .ref q_t_then, .int t_worseAt, .int t_worseWho, .int t_hours, .ref q_t_ahead, .int t_reason, .int t_acts, .ref q_t_most, .ref q_t_worth, .ref q_t_damp, .ref q_t_next, .ref q_t_image, .ref q_t_isKept])), (q_t_now, .inl (G 0, 26, .inl t_now)), (q_t_does, .inl (G 0, 12, .inl t_does)), (q_t_bad, .inl (G 0, 36, .inl t_bad)), (q_t_then, .inl (G 0, 18, .inl w314))] H → va_D A [(q_t, .inr (8, [.int t_there, .ref q_t_book, .ref q_t_now, .ref q_t_does, .ref q_t_bad, .ref q_t_likes, .int t_sights, .ref q_t_sight, .int t_signs, .ref q_t_pad, .ref q_t_then, .int t_worseAt, .int t_worseWho, .int t_hours, .ref q_t_ahead, .int t_reason, .int t_acts, .ref q_t_most, .ref q_t_worth, .ref q_t_damp, .ref q_t_next, .ref q_t_image, .ref q_t_isKept])), (q_t_now, .inl (G 0, 26, .inl t_now)), (q_t_does, .inl (G 0, 12, .inl t_does)), (q_t_bad, .inl (G 0, 36, .inl t_bad)), (q_t_then, .inl (G 0, 18, .inl w314))] → va_S A s.heap H locs → ∀ ls : Array Slot, lv_has ls 6 [(0, .ref q_t), (1, .int w313), (2, .int x323), (4, .int w402)] → W p l e (kR 2 81) s m args below meth c H locs 0 0 Q (F0 m 79 ls [.int z439, .int w401]) := by
                intro z439 hy; obtain rfl := sm1 hy
                intro H locs hP hD hS ls hl
                refine lv_iadd hx hb dX8_hour_79 ?_
                refine lv_topi (fun y440 ey440 => ?_)
                have hf := nmeU ey440 hf
                refine lv_istore_n (lv' := [(3, .int y440), (0, .ref q_t), (1, .int w313), (2, .int x323), (4, .int w402)]) hx hb dX8_hour_80 rfl hl (by decide) rfl (fun ls hl => ?_)
                obtain ⟨y441, ey441⟩ : ∃ y : Int32, y = w402 + (1 : Int32) := ⟨_, rfl⟩
                have hf := nmeU ey441 hf
                refine lv_iinc (v := y441) (lv' := [(4, .int y441), (3, .int y440), (0, .ref q_t), (1, .int w313), (2, .int x323)]) hx hb dX8_hour_81 hl (k := 4) rfl (by rw [ey441]; rfl) (by decide) rfl (fun ls hl => ?_)
                refine lv_goto (tgt := 23) hx hb dX8_hour_84 (by decide) ?_
                exact ih _ _ hf H locs hP hD hS ls (lv_sub hl [2, 3, 4, 1, 0] rfl)
              have hf := h470
              refine lv_icmp_eq (tgt := 78) hx hb dX8_hour_34 (by decide) (fun c443 => ?_) (fun c443 => ?_)
              · have hf := ifp c443 hf
                refine lv_iconst (v := (0 : Int32)) hx hb dX8_hour_78 (by decide) ?_
                exact E442 _ hf H locs hP hD hS ls (lv_sub hl [0, 1, 2, 4] rfl)
              · have hf := ifn c443 hf
                refine lv_aload_n hx hb dX8_hour_37 rfl (lv_at hl 0 rfl) ?_
                refine va_get (D := D) (ci := 8) (v := .int t_there) (C := RX8) (T := TX8) (N := 23) hx hb hts inX8 hown hK hP 0 rfl rfl 0 (by decide) (hts _ lfX8_57) (fun _ h9 => h9) rfl dX8_hour_38 ?_
                refine lv_iload hx hb dX8_hour_41 (lv_at hl 4 rfl) ?_
                obtain ⟨r444, h445, hf⟩ := bd1E hf
                refine kO_stat hx hb hml hown hts hK hn hP (kX8_has l D G t_there w402 h445) csX8_65 ⟨Nat.le_of_ble_eq_true rfl, Nat.le_of_ble_eq_true rfl⟩ [] rfl rfl hl.1 rfl (Nat.le_of_ble_eq_true rfl) ⟨Nat.zero_le _, Nat.zero_le _⟩ dX8_hour_43 ?_
                obtain ⟨j456, h469, hf⟩ := bd1E hf
                have E458 : ∀ (z457 : Int32), some z457 = some j456 → ∀ (H : Heap) (locs : List Loc), va_P D vwCl [(q_t, .inr (8, [.int t_there, .ref q_t_book, .ref q_t_now, .ref q_t_does, .ref q_t_bad, .ref q_t_likes, .int t_sights, .ref q_t_sight, .int t_signs, .ref q_t_pad, .ref q_t_then, .int t_worseAt, .int t_worseWho, .int t_hours, .ref q_t_ahead, .int t_reason, .int t_acts, .ref q_t_most, .ref q_t_worth, .ref q_t_damp, .ref q_t_next, .ref q_t_image, .ref q_t_isKept])), (q_t_now, .inl (G 0, 26, .inl t_now)), (q_t_does, .inl (G 0, 12, .inl t_does)), (q_t_bad, .inl (G 0, 36, .inl t_bad)), (q_t_then, .inl (G 0, 18, .inl w314))] H → va_D A [(q_t, .inr (8, [.int t_there, .ref q_t_book, .ref q_t_now, .ref q_t_does, .ref q_t_bad, .ref q_t_likes, .int t_sights, .ref q_t_sight, .int t_signs, .ref q_t_pad, .ref q_t_then, .int t_worseAt, .int t_worseWho, .int t_hours, .ref q_t_ahead, .int t_reason, .int t_acts, .ref q_t_most, .ref q_t_worth, .ref q_t_damp, .ref q_t_next, .ref q_t_image, .ref q_t_isKept])), (q_t_now, .inl (G 0, 26, .inl t_now)), (q_t_does, .inl (G 0, 12, .inl t_does)), (q_t_bad, .inl (G 0, 36, .inl t_bad)), (q_t_then, .inl (G 0, 18, .inl w314))] → va_S A s.heap H locs → ∀ ls : Array Slot, lv_has ls 6 [(0, .ref q_t), (1, .int w313), (2, .int x323), (4, .int w402)] → W p l e (kR 2 81) s m args below meth c H locs 0 0 Q (F0 m 79 ls [.int z457, .int w401]) := by
                  intro z457 hy; obtain rfl := sm1 hy
                  intro H locs hP hD hS ls hl
                  exact E442 _ hf H locs hP hD hS ls (lv_sub hl [0, 1, 2, 3] rfl)
                have hf := h469
                refine lv_if_eq (tgt := 78) hx hb dX8_hour_46 (by decide) (fun c459 => ?_) (fun c459 => ?_)
                · have hf := ifp c459 hf
                  refine lv_iconst (v := (0 : Int32)) hx hb dX8_hour_78 (by decide) ?_
                  exact E458 _ hf H locs hP hD hS ls (lv_sub hl [0, 1, 2, 4] rfl)
                · have hf := ifn c459 hf
                  refine lv_aload_n hx hb dX8_hour_49 rfl (lv_at hl 0 rfl) ?_
                  refine va_get (D := D) (ci := 8) (v := .ref q_t_now) (C := RX8) (T := TX8) (N := 23) hx hb hts inX8 hown hK hP 0 rfl rfl 2 (by decide) (hts _ lfX8_13) (fun _ h9 => h9) rfl dX8_hour_50 ?_
                  refine lv_bipush (v := (18 : Int32)) hx hb dX8_hour_53 (by decide) ?_
                  refine lv_iload hx hb dX8_hour_55 (lv_at hl 4 rfl) ?_
                  refine lv_iadd hx hb dX8_hour_57 ?_
                  obtain ⟨x460, ex460, ix460, hf⟩ := ldIE hf
                  refine k_iald hx hb hK hP 1 0 rfl rfl ix460 ex460 dX8_hour_58 ?_
                  refine lv_iload_n hx hb dX8_hour_59 rfl (lv_at hl 2 rfl) ?_
                  obtain ⟨j463, h468, hf⟩ := bd1E hf
                  have E465 : ∀ (z464 : Int32), some z464 = some j463 → ∀ (H : Heap) (locs : List Loc), va_P D vwCl [(q_t, .inr (8, [.int t_there, .ref q_t_book, .ref q_t_now, .ref q_t_does, .ref q_t_bad, .ref q_t_likes, .int t_sights, .ref q_t_sight, .int t_signs, .ref q_t_pad, .ref q_t_then, .int t_worseAt, .int t_worseWho, .int t_hours, .ref q_t_ahead, .int t_reason, .int t_acts, .ref q_t_most, .ref q_t_worth, .ref q_t_damp, .ref q_t_next, .ref q_t_image, .ref q_t_isKept])), (q_t_now, .inl (G 0, 26, .inl t_now)), (q_t_does, .inl (G 0, 12, .inl t_does)), (q_t_bad, .inl (G 0, 36, .inl t_bad)), (q_t_then, .inl (G 0, 18, .inl w314))] H → va_D A [(q_t, .inr (8, [.int t_there, .ref q_t_book, .ref q_t_now, .ref q_t_does, .ref q_t_bad, .ref q_t_likes, .int t_sights, .ref q_t_sight, .int t_signs, .ref q_t_pad, .ref q_t_then, .int t_worseAt, .int t_worseWho, .int t_hours, .ref q_t_ahead, .int t_reason, .int t_acts, .ref q_t_most, .ref q_t_worth, .ref q_t_damp, .ref q_t_next, .ref q_t_image, .ref q_t_isKept])), (q_t_now, .inl (G 0, 26, .inl t_now)), (q_t_does, .inl (G 0, 12, .inl t_does)), (q_t_bad, .inl (G 0, 36, .inl t_bad)), (q_t_then, .inl (G 0, 18, .inl w314))] → va_S A s.heap H locs → ∀ ls : Array Slot, lv_has ls 6 [(0, .ref q_t), (1, .int w313), (2, .int x323), (4, .int w402)] → W p l e (kR 2 81) s m args below meth c H locs 0 0 Q (F0 m 79 ls [.int z464, .int w401]) := by
                    intro z464 hy; obtain rfl := sm1 hy
                    intro H locs hP hD hS ls hl
                    exact E458 _ hf H locs hP hD hS ls (lv_sub hl [0, 1, 2, 3] rfl)
                  have hf := h468
                  refine lv_icmp_ne (tgt := 78) hx hb dX8_hour_60 (by decide) (fun c466 => ?_) (fun c466 => ?_)
                  · have hf := ifn c466 hf
                    refine lv_iconst (v := (0 : Int32)) hx hb dX8_hour_78 (by decide) ?_
                    exact E465 _ hf H locs hP hD hS ls (lv_sub hl [0, 1, 2, 4] rfl)
                  · have hf := ifp c466 hf
                    refine lv_aload_n hx hb dX8_hour_63 rfl (lv_at hl 0 rfl) ?_
                    refine va_get (D := D) (ci := 8) (v := .ref q_t_bad) (C := RX8) (T := TX8) (N := 23) hx hb hts inX8 hown hK hP 0 rfl rfl 4 (by decide) (hts _ lfX8_19) (fun _ h9 => h9) rfl dX8_hour_64 ?_
                    refine lv_bipush (v := (6 : Int32)) hx hb dX8_hour_67 (by decide) ?_
                    refine lv_iload hx hb dX8_hour_69 (lv_at hl 4 rfl) ?_
                    refine lv_imul hx hb dX8_hour_71 ?_
                    refine lv_iload_n hx hb dX8_hour_72 rfl (lv_at hl 1 rfl) ?_
                    refine lv_iadd hx hb dX8_hour_73 ?_
                    obtain ⟨x467, ex467, ix467, hf⟩ := ldIE hf
                    refine k_iald hx hb hK hP 3 0 rfl rfl ix467 ex467 dX8_hour_74 ?_
                    refine lv_goto (tgt := 79) hx hb dX8_hour_75 (by decide) ?_
                    exact E465 _ hf H locs hP hD hS ls (lv_sub hl [0, 1, 2, 4] rfl)
        exact L405 fu (0 : Int32) (0 : Int32) h407 H locs hP hD hS ls (lv_sub hl [3, 4, 2, 1, 0] rfl)
  exact L317 fu (0 : Int32) t_then h319 H locs hP hD hS ls (lv_sub hl [1, 0] rfl)
set_option maxHeartbeats 4000000 in
set_option maxRecDepth 100000 in
theorem kX8_all (l : Launch) (D : va_G) (G : Nat → ClassId) (fu : Nat) (q_t q_t_book q_t_now q_t_does q_t_bad q_t_likes q_t_sight q_t_pad q_t_then q_t_ahead q_t_most q_t_worth q_t_damp q_t_next q_t_image q_t_isKept : Nat) (t_there : Int32) (t_sights : Int32) (t_signs : Int32) (t_worseAt : Int32) (t_worseWho : Int32) (t_hours : Int32) (t_reason : Int32) (t_acts : Int32) (t_book : Nat → Int32) (t_now : Nat → Int32) (t_does : Nat → Int32) (t_bad : Nat → Int32) (t_then : Nat → Int32) (v1 : Int32) {r : Int32} {o_t_now : Nat → Int32} {o_t_then : Nat → Int32} (hf : fX8_all fu t_there t_book t_now t_does t_bad t_then v1 = some (r, o_t_now, o_t_then)) : rW l D G yX8_all cX8_all 10 (some .int) 3 106 [.ref q_t, .int v1] [(q_t, .inr (8, [.int t_there, .ref q_t_book, .ref q_t_now, .ref q_t_does, .ref q_t_bad, .ref q_t_likes, .int t_sights, .ref q_t_sight, .int t_signs, .ref q_t_pad, .ref q_t_then, .int t_worseAt, .int t_worseWho, .int t_hours, .ref q_t_ahead, .int t_reason, .int t_acts, .ref q_t_most, .ref q_t_worth, .ref q_t_damp, .ref q_t_next, .ref q_t_image, .ref q_t_isKept])), (q_t_book, .inl (G 0, 26, .inl t_book)), (q_t_now, .inl (G 0, 26, .inl t_now)), (q_t_does, .inl (G 0, 12, .inl t_does)), (q_t_bad, .inl (G 0, 36, .inl t_bad)), (q_t_then, .inl (G 0, 18, .inl t_then))] [(q_t, .inr (8, [.int t_there, .ref q_t_book, .ref q_t_now, .ref q_t_does, .ref q_t_bad, .ref q_t_likes, .int t_sights, .ref q_t_sight, .int t_signs, .ref q_t_pad, .ref q_t_then, .int t_worseAt, .int t_worseWho, .int t_hours, .ref q_t_ahead, .int t_reason, .int t_acts, .ref q_t_most, .ref q_t_worth, .ref q_t_damp, .ref q_t_next, .ref q_t_image, .ref q_t_isKept])), (q_t_book, .inl (G 0, 26, .inl t_book)), (q_t_now, .inl (G 0, 26, .inl o_t_now)), (q_t_does, .inl (G 0, 12, .inl t_does)), (q_t_bad, .inl (G 0, 36, .inl t_bad)), (q_t_then, .inl (G 0, 18, .inl o_t_then))] (some (.int r)) := by
  refine rW_of (by decide) (Nat.le_of_ble_eq_true rfl) ?_
  intro p e s m args below meth c Q A hx hb hml hown hts hK hn hA RET H locs hP hD hS ls hl
  have RT : ∀ (a0_ : Int32) (a1_ : Nat → Int32) (a2_ : Nat → Int32), some (a0_, a1_, a2_) = some (r, o_t_now, o_t_then) → ∀ (pc : Nat) (ls : Array Slot) (ins : Instr) (H : Heap) (locs : List Loc), decode cX8_all pc = .ok (ins, 1) → rk (some .int) (some (.int a0_)) ins → va_P D vwCl [(q_t, .inr (8, [.int t_there, .ref q_t_book, .ref q_t_now, .ref q_t_does, .ref q_t_bad, .ref q_t_likes, .int t_sights, .ref q_t_sight, .int t_signs, .ref q_t_pad, .ref q_t_then, .int t_worseAt, .int t_worseWho, .int t_hours, .ref q_t_ahead, .int t_reason, .int t_acts, .ref q_t_most, .ref q_t_worth, .ref q_t_damp, .ref q_t_next, .ref q_t_image, .ref q_t_isKept])), (q_t_book, .inl (G 0, 26, .inl t_book)), (q_t_now, .inl (G 0, 26, .inl a1_)), (q_t_does, .inl (G 0, 12, .inl t_does)), (q_t_bad, .inl (G 0, 36, .inl t_bad)), (q_t_then, .inl (G 0, 18, .inl a2_))] H → va_D A [(q_t, .inr (8, [.int t_there, .ref q_t_book, .ref q_t_now, .ref q_t_does, .ref q_t_bad, .ref q_t_likes, .int t_sights, .ref q_t_sight, .int t_signs, .ref q_t_pad, .ref q_t_then, .int t_worseAt, .int t_worseWho, .int t_hours, .ref q_t_ahead, .int t_reason, .int t_acts, .ref q_t_most, .ref q_t_worth, .ref q_t_damp, .ref q_t_next, .ref q_t_image, .ref q_t_isKept])), (q_t_book, .inl (G 0, 26, .inl t_book)), (q_t_now, .inl (G 0, 26, .inl a1_)), (q_t_does, .inl (G 0, 12, .inl t_does)), (q_t_bad, .inl (G 0, 36, .inl t_bad)), (q_t_then, .inl (G 0, 18, .inl a2_))] → va_S A s.heap H locs → W p l e (kR 3 106) s m args below meth c H locs 0 0 Q (F0 m pc ls [.int a0_]) := by
    intro a0_ a1_ a2_ hy; obtain ⟨rfl, rfl, rfl⟩ := sm3 hy
    exact RET
  have hown : s.vm.findClass RX8 = some m.cls := hown
  have hl : lv_has ls 10 [(0, .ref q_t), (1, .int v1)] := hl
  clear RET
  rw [fX8_all] at hf
  refine lv_iload_n hx hb dX8_all_0 rfl (lv_at hl 1 rfl) ?_
  refine lv_iconst (v := (0 : Int32)) hx hb dX8_all_1 (by decide) ?_
  refine lv_iconst (v := (1 : Int32)) hx hb dX8_all_2 (by decide) ?_
  obtain ⟨r1, h2, hf⟩ := bd1E hf
  refine kO_stat hx hb hml hown hts hK hn hP (kX8_in l D G v1 (0 : Int32) (1 : Int32) h2) csX8_61 ⟨Nat.le_of_ble_eq_true rfl, Nat.le_of_ble_eq_true rfl⟩ [] rfl rfl hl.1 rfl (Nat.le_of_ble_eq_true rfl) ⟨Nat.zero_le _, Nat.zero_le _⟩ dX8_all_3 ?_
  refine lv_if_ne (tgt := 12) hx hb dX8_all_6 (by decide) (fun c3 => ?_) (fun c3 => ?_)
  · have hf := ifn c3 hf
    refine lv_bipush (v := (-6 : Int32)) hx hb dX8_all_12 (by decide) ?_
    refine lv_istore_n (lv' := [(2, .int (-6 : Int32)), (0, .ref q_t), (1, .int v1)]) hx hb dX8_all_14 rfl hl (by decide) rfl (fun ls hl => ?_)
    refine lv_ldc (v := (1000000 : Int32)) hx hb hown (hts _ lcX8_133) dX8_all_15 ?_
    refine lv_istore_n (lv' := [(3, .int (1000000 : Int32)), (2, .int (-6 : Int32)), (0, .ref q_t), (1, .int v1)]) hx hb dX8_all_17 rfl hl (by decide) rfl (fun ls hl => ?_)
    refine lv_iconst (v := (0 : Int32)) hx hb dX8_all_18 (by decide) ?_
    refine lv_istore (lv' := [(4, .int (0 : Int32)), (3, .int (1000000 : Int32)), (2, .int (-6 : Int32)), (0, .ref q_t), (1, .int v1)]) hx hb dX8_all_19 hl (by decide) rfl (fun ls hl => ?_)
    obtain ⟨u392, u393, u394, u395, h399, hf⟩ := bd4E hf
    have E396 : ∀ (z768 : Int32) (z769 : Int32) (z770 : Nat → Int32) (z771 : Nat → Int32), some (z768, z769, z770, z771) = some (u392, u393, u394, u395) → ∀ (H : Heap) (locs : List Loc), va_P D vwCl [(q_t, .inr (8, [.int t_there, .ref q_t_book, .ref q_t_now, .ref q_t_does, .ref q_t_bad, .ref q_t_likes, .int t_sights, .ref q_t_sight, .int t_signs, .ref q_t_pad, .ref q_t_then, .int t_worseAt, .int t_worseWho, .int t_hours, .ref q_t_ahead, .int t_reason, .int t_acts, .ref q_t_most, .ref q_t_worth, .ref q_t_damp, .ref q_t_next, .ref q_t_image, .ref q_t_isKept])), (q_t_book, .inl (G 0, 26, .inl t_book)), (q_t_now, .inl (G 0, 26, .inl z770)), (q_t_does, .inl (G 0, 12, .inl t_does)), (q_t_bad, .inl (G 0, 36, .inl t_bad)), (q_t_then, .inl (G 0, 18, .inl z771))] H → va_D A [(q_t, .inr (8, [.int t_there, .ref q_t_book, .ref q_t_now, .ref q_t_does, .ref q_t_bad, .ref q_t_likes, .int t_sights, .ref q_t_sight, .int t_signs, .ref q_t_pad, .ref q_t_then, .int t_worseAt, .int t_worseWho, .int t_hours, .ref q_t_ahead, .int t_reason, .int t_acts, .ref q_t_most, .ref q_t_worth, .ref q_t_damp, .ref q_t_next, .ref q_t_image, .ref q_t_isKept])), (q_t_book, .inl (G 0, 26, .inl t_book)), (q_t_now, .inl (G 0, 26, .inl z770)), (q_t_does, .inl (G 0, 12, .inl t_does)), (q_t_bad, .inl (G 0, 36, .inl t_bad)), (q_t_then, .inl (G 0, 18, .inl z771))] → va_S A s.heap H locs → ∀ ls : Array Slot, lv_has ls 10 [(1, .int v1), (2, .int z768), (3, .int z769)] → W p l e (kR 3 106) s m args below meth c H locs 0 0 Q (F0 m 240 ls []) := by
      intro z768 z769 z770 z771 hy; obtain ⟨rfl, rfl, rfl, rfl⟩ := sm4 hy
      intro H locs hP hD hS ls hl
      refine lv_iload_n hx hb dX8_all_240 rfl (lv_at hl 1 rfl) ?_
      refine lv_if_lt (tgt := 249) hx hb dX8_all_241 (by decide) (fun c772 => ?_) (fun c772 => ?_)
      · have hf := ifp c772 hf
        refine lv_iload_n hx hb dX8_all_249 rfl (lv_at hl 1 rfl) ?_
        refine lv_goto (tgt := 254) hx hb dX8_all_250 (by decide) ?_
        exact RT _ _ _ hf _ _ _ H locs dX8_all_254 (rkI _) hP hD hS
      · have hf := ifn c772 hf
        refine lv_iload_n hx hb dX8_all_244 rfl (lv_at hl 0 rfl) ?_
        refine lv_iconst (v := (1 : Int32)) hx hb dX8_all_245 (by decide) ?_
        refine lv_icmp_ne (tgt := 253) hx hb dX8_all_246 (by decide) (fun c773 => ?_) (fun c773 => ?_)
        · have hf := ifn c773 hf
          refine lv_iload_n hx hb dX8_all_253 rfl (lv_at hl 2 rfl) ?_
          exact RT _ _ _ hf _ _ _ H locs dX8_all_254 (rkI _) hP hD hS
        · have hf := ifp c773 hf
          refine lv_iload_n hx hb dX8_all_249 rfl (lv_at hl 1 rfl) ?_
          refine lv_goto (tgt := 254) hx hb dX8_all_250 (by decide) ?_
          exact RT _ _ _ hf _ _ _ H locs dX8_all_254 (rkI _) hP hD hS
    have L397 : ∀ (k : Nat) (w387 : Int32) (w388 : Int32) (w389 : Int32) (w390 : Nat → Int32) (w391 : Nat → Int32), fX8_all_21 fu t_book t_there t_does t_bad k w387 w388 w389 w390 w391 = some (u392, u393, u394, u395) → ∀ (H : Heap) (locs : List Loc), va_P D vwCl [(q_t, .inr (8, [.int t_there, .ref q_t_book, .ref q_t_now, .ref q_t_does, .ref q_t_bad, .ref q_t_likes, .int t_sights, .ref q_t_sight, .int t_signs, .ref q_t_pad, .ref q_t_then, .int t_worseAt, .int t_worseWho, .int t_hours, .ref q_t_ahead, .int t_reason, .int t_acts, .ref q_t_most, .ref q_t_worth, .ref q_t_damp, .ref q_t_next, .ref q_t_image, .ref q_t_isKept])), (q_t_book, .inl (G 0, 26, .inl t_book)), (q_t_now, .inl (G 0, 26, .inl w390)), (q_t_does, .inl (G 0, 12, .inl t_does)), (q_t_bad, .inl (G 0, 36, .inl t_bad)), (q_t_then, .inl (G 0, 18, .inl w391))] H → va_D A [(q_t, .inr (8, [.int t_there, .ref q_t_book, .ref q_t_now, .ref q_t_does, .ref q_t_bad, .ref q_t_likes, .int t_sights, .ref q_t_sight, .int t_signs, .ref q_t_pad, .ref q_t_then, .int t_worseAt, .int t_worseWho, .int t_hours, .ref q_t_ahead, .int t_reason, .int t_acts, .ref q_t_most, .ref q_t_worth, .ref q_t_damp, .ref q_t_next, .ref q_t_image, .ref q_t_isKept])), (q_t_book, .inl (G 0, 26, .inl t_book)), (q_t_now, .inl (G 0, 26, .inl w390)), (q_t_does, .inl (G 0, 12, .inl t_does)), (q_t_bad, .inl (G 0, 36, .inl t_bad)), (q_t_then, .inl (G 0, 18, .inl w391))] → va_S A s.heap H locs → ∀ ls : Array Slot, lv_has ls 10 [(0, .ref q_t), (1, .int v1), (2, .int w387), (3, .int w388), (4, .int w389)] → W p l e (kR 3 106) s m args below meth c H locs 0 0 Q (F0 m 21 ls []) := by
      intro k; induction k with
      | zero => intro w387 w388 w389 w390 w391 hf; exact nosome hf
      | succ k ih =>
        intro w387 w388 w389 w390 w391 hf; rw [fX8_all_21] at hf
        intro H locs hP hD hS ls hl
        refine lv_iload hx hb dX8_all_21 (lv_at hl 4 rfl) ?_
        refine lv_sipush (v := (4096 : Int32)) hx hb dX8_all_23 (by decide) ?_
        refine lv_icmp_ge (tgt := 240) hx hb dX8_all_26 (by decide) (fun c402 => ?_) (fun c402 => ?_)
        · have hf := ifp c402 hf
          exact E396 _ _ _ _ hf H locs hP hD hS ls (lv_sub hl [1, 2, 3] rfl)
        · have hf := ifn c402 hf
          refine lv_iconst (v := (1 : Int32)) hx hb dX8_all_29 (by decide) ?_
          refine lv_istore (lv' := [(5, .int (1 : Int32)), (0, .ref q_t), (1, .int v1), (2, .int w387), (3, .int w388), (4, .int w389)]) hx hb dX8_all_30 hl (by decide) rfl (fun ls hl => ?_)
          refine lv_iconst (v := (0 : Int32)) hx hb dX8_all_32 (by decide) ?_
          refine lv_istore (lv' := [(6, .int (0 : Int32)), (5, .int (1 : Int32)), (0, .ref q_t), (1, .int v1), (2, .int w387), (3, .int w388), (4, .int w389)]) hx hb dX8_all_33 hl (by decide) rfl (fun ls hl => ?_)
          refine lv_aload_n hx hb dX8_all_35 rfl (lv_at hl 2 rfl) ?_
          obtain ⟨o403, h404, hf⟩ := bd1E hf
          refine kW_virt0 hx hb hml hown hts hK hn hA hP hD hS (kX8_asNow l D G fu q_t q_t_book q_t_now q_t_does q_t_bad q_t_likes q_t_sight q_t_pad q_t_then q_t_ahead q_t_most q_t_worth q_t_damp q_t_next q_t_image q_t_isKept t_there t_sights t_signs t_worseAt t_worseWho t_hours t_reason t_acts t_book w390 h404) cvX8_105 ⟨Nat.le_of_ble_eq_true rfl, Nat.le_of_ble_eq_true rfl⟩ [0, 1, 2] rfl rfl [true, true, true] rfl (w3 := [(q_t, .inr (8, [.int t_there, .ref q_t_book, .ref q_t_now, .ref q_t_does, .ref q_t_bad, .ref q_t_likes, .int t_sights, .ref q_t_sight, .int t_signs, .ref q_t_pad, .ref q_t_then, .int t_worseAt, .int t_worseWho, .int t_hours, .ref q_t_ahead, .int t_reason, .int t_acts, .ref q_t_most, .ref q_t_worth, .ref q_t_damp, .ref q_t_next, .ref q_t_image, .ref q_t_isKept])), (q_t_book, .inl (G 0, 26, .inl t_book)), (q_t_now, .inl (G 0, 26, .inl o403))]) [0, 1, 2] rfl rfl 0 rfl rfl rfl hl.1 rfl (Nat.le_of_ble_eq_true rfl) ⟨Nat.zero_le _, Nat.zero_le _⟩ dX8_all_36 (fun H locs hP hD hS => ?_)
          have hP : va_P D vwCl [(q_t, .inr (8, [.int t_there, .ref q_t_book, .ref q_t_now, .ref q_t_does, .ref q_t_bad, .ref q_t_likes, .int t_sights, .ref q_t_sight, .int t_signs, .ref q_t_pad, .ref q_t_then, .int t_worseAt, .int t_worseWho, .int t_hours, .ref q_t_ahead, .int t_reason, .int t_acts, .ref q_t_most, .ref q_t_worth, .ref q_t_damp, .ref q_t_next, .ref q_t_image, .ref q_t_isKept])), (q_t_book, .inl (G 0, 26, .inl t_book)), (q_t_now, .inl (G 0, 26, .inl o403)), (q_t_does, .inl (G 0, 12, .inl t_does)), (q_t_bad, .inl (G 0, 36, .inl t_bad)), (q_t_then, .inl (G 0, 18, .inl w391))] H := hP
          have hD : va_D A [(q_t, .inr (8, [.int t_there, .ref q_t_book, .ref q_t_now, .ref q_t_does, .ref q_t_bad, .ref q_t_likes, .int t_sights, .ref q_t_sight, .int t_signs, .ref q_t_pad, .ref q_t_then, .int t_worseAt, .int t_worseWho, .int t_hours, .ref q_t_ahead, .int t_reason, .int t_acts, .ref q_t_most, .ref q_t_worth, .ref q_t_damp, .ref q_t_next, .ref q_t_image, .ref q_t_isKept])), (q_t_book, .inl (G 0, 26, .inl t_book)), (q_t_now, .inl (G 0, 26, .inl o403)), (q_t_does, .inl (G 0, 12, .inl t_does)), (q_t_bad, .inl (G 0, 36, .inl t_bad)), (q_t_then, .inl (G 0, 18, .inl w391))] := hD
          refine lv_aload_n hx hb dX8_all_39 rfl (lv_at hl 2 rfl) ?_
          refine va_get (D := D) (ci := 8) (v := .ref q_t_now) (C := RX8) (T := TX8) (N := 23) hx hb hts inX8 hown hK hP 0 rfl rfl 2 (by decide) (hts _ lfX8_13) (fun _ h9 => h9) rfl dX8_all_40 ?_
          refine lv_bipush (v := (24 : Int32)) hx hb dX8_all_43 (by decide) ?_
          refine lv_iconst (v := (0 : Int32)) hx hb dX8_all_45 (by decide) ?_
          obtain ⟨g405, eg405, ig405, hf⟩ := stIE hf
          refine k_iast hx hb hK hP hD hS 2 0 rfl rfl ig405 eg405 dX8_all_46 (fun H locs hP hD hS => ?_)
          have hP : va_P D vwCl [(q_t, .inr (8, [.int t_there, .ref q_t_book, .ref q_t_now, .ref q_t_does, .ref q_t_bad, .ref q_t_likes, .int t_sights, .ref q_t_sight, .int t_signs, .ref q_t_pad, .ref q_t_then, .int t_worseAt, .int t_worseWho, .int t_hours, .ref q_t_ahead, .int t_reason, .int t_acts, .ref q_t_most, .ref q_t_worth, .ref q_t_damp, .ref q_t_next, .ref q_t_image, .ref q_t_isKept])), (q_t_book, .inl (G 0, 26, .inl t_book)), (q_t_now, .inl (G 0, 26, .inl g405)), (q_t_does, .inl (G 0, 12, .inl t_does)), (q_t_bad, .inl (G 0, 36, .inl t_bad)), (q_t_then, .inl (G 0, 18, .inl w391))] H := hP
          have hD : va_D A [(q_t, .inr (8, [.int t_there, .ref q_t_book, .ref q_t_now, .ref q_t_does, .ref q_t_bad, .ref q_t_likes, .int t_sights, .ref q_t_sight, .int t_signs, .ref q_t_pad, .ref q_t_then, .int t_worseAt, .int t_worseWho, .int t_hours, .ref q_t_ahead, .int t_reason, .int t_acts, .ref q_t_most, .ref q_t_worth, .ref q_t_damp, .ref q_t_next, .ref q_t_image, .ref q_t_isKept])), (q_t_book, .inl (G 0, 26, .inl t_book)), (q_t_now, .inl (G 0, 26, .inl g405)), (q_t_does, .inl (G 0, 12, .inl t_does)), (q_t_bad, .inl (G 0, 36, .inl t_bad)), (q_t_then, .inl (G 0, 18, .inl w391))] := hD
          refine lv_iconst (v := (0 : Int32)) hx hb dX8_all_47 (by decide) ?_
          refine lv_istore (lv' := [(7, .int (0 : Int32)), (6, .int (0 : Int32)), (5, .int (1 : Int32)), (0, .ref q_t), (1, .int v1), (2, .int w387), (3, .int w388), (4, .int w389)]) hx hb dX8_all_48 hl (by decide) rfl (fun ls hl => ?_)
          obtain ⟨u489, u490, u491, h495, hf⟩ := bd3E hf
          have E492 : ∀ (z557 : Int32) (z558 : Int32) (z559 : Nat → Int32), some (z557, z558, z559) = some (u489, u490, u491) → ∀ (H : Heap) (locs : List Loc), va_P D vwCl [(q_t, .inr (8, [.int t_there, .ref q_t_book, .ref q_t_now, .ref q_t_does, .ref q_t_bad, .ref q_t_likes, .int t_sights, .ref q_t_sight, .int t_signs, .ref q_t_pad, .ref q_t_then, .int t_worseAt, .int t_worseWho, .int t_hours, .ref q_t_ahead, .int t_reason, .int t_acts, .ref q_t_most, .ref q_t_worth, .ref q_t_damp, .ref q_t_next, .ref q_t_image, .ref q_t_isKept])), (q_t_book, .inl (G 0, 26, .inl t_book)), (q_t_now, .inl (G 0, 26, .inl z559)), (q_t_does, .inl (G 0, 12, .inl t_does)), (q_t_bad, .inl (G 0, 36, .inl t_bad)), (q_t_then, .inl (G 0, 18, .inl w391))] H → va_D A [(q_t, .inr (8, [.int t_there, .ref q_t_book, .ref q_t_now, .ref q_t_does, .ref q_t_bad, .ref q_t_likes, .int t_sights, .ref q_t_sight, .int t_signs, .ref q_t_pad, .ref q_t_then, .int t_worseAt, .int t_worseWho, .int t_hours, .ref q_t_ahead, .int t_reason, .int t_acts, .ref q_t_most, .ref q_t_worth, .ref q_t_damp, .ref q_t_next, .ref q_t_image, .ref q_t_isKept])), (q_t_book, .inl (G 0, 26, .inl t_book)), (q_t_now, .inl (G 0, 26, .inl z559)), (q_t_does, .inl (G 0, 12, .inl t_does)), (q_t_bad, .inl (G 0, 36, .inl t_bad)), (q_t_then, .inl (G 0, 18, .inl w391))] → va_S A s.heap H locs → ∀ ls : Array Slot, lv_has ls 10 [(0, .ref q_t), (1, .int v1), (2, .int w387), (3, .int w388), (4, .int w389), (5, .int z557), (6, .int z558)] → W p l e (kR 3 106) s m args below meth c H locs 0 0 Q (F0 m 143 ls []) := by
            intro z557 z558 z559 hy; obtain ⟨rfl, rfl, rfl⟩ := sm3 hy
            intro H locs hP hD hS ls hl
            refine lv_iconst (v := (0 : Int32)) hx hb dX8_all_143 (by decide) ?_
            refine lv_istore (lv' := [(7, .int (0 : Int32)), (0, .ref q_t), (1, .int v1), (2, .int w387), (3, .int w388), (4, .int w389), (5, .int z557), (6, .int z558)]) hx hb dX8_all_144 hl (by decide) rfl (fun ls hl => ?_)
            obtain ⟨u669, u670, u671, u672, h676, hf⟩ := bd4E hf
            have E673 : ∀ (z763 : Int32) (z764 : Int32) (z765 : Nat → Int32) (z766 : Nat → Int32), some (z763, z764, z765, z766) = some (u669, u670, u671, u672) → ∀ (H : Heap) (locs : List Loc), va_P D vwCl [(q_t, .inr (8, [.int t_there, .ref q_t_book, .ref q_t_now, .ref q_t_does, .ref q_t_bad, .ref q_t_likes, .int t_sights, .ref q_t_sight, .int t_signs, .ref q_t_pad, .ref q_t_then, .int t_worseAt, .int t_worseWho, .int t_hours, .ref q_t_ahead, .int t_reason, .int t_acts, .ref q_t_most, .ref q_t_worth, .ref q_t_damp, .ref q_t_next, .ref q_t_image, .ref q_t_isKept])), (q_t_book, .inl (G 0, 26, .inl t_book)), (q_t_now, .inl (G 0, 26, .inl z765)), (q_t_does, .inl (G 0, 12, .inl t_does)), (q_t_bad, .inl (G 0, 36, .inl t_bad)), (q_t_then, .inl (G 0, 18, .inl z766))] H → va_D A [(q_t, .inr (8, [.int t_there, .ref q_t_book, .ref q_t_now, .ref q_t_does, .ref q_t_bad, .ref q_t_likes, .int t_sights, .ref q_t_sight, .int t_signs, .ref q_t_pad, .ref q_t_then, .int t_worseAt, .int t_worseWho, .int t_hours, .ref q_t_ahead, .int t_reason, .int t_acts, .ref q_t_most, .ref q_t_worth, .ref q_t_damp, .ref q_t_next, .ref q_t_image, .ref q_t_isKept])), (q_t_book, .inl (G 0, 26, .inl t_book)), (q_t_now, .inl (G 0, 26, .inl z765)), (q_t_does, .inl (G 0, 12, .inl t_does)), (q_t_bad, .inl (G 0, 36, .inl t_bad)), (q_t_then, .inl (G 0, 18, .inl z766))] → va_S A s.heap H locs → ∀ ls : Array Slot, lv_has ls 10 [(0, .ref q_t), (1, .int v1), (2, .int z763), (3, .int z764), (4, .int w389)] → W p l e (kR 3 106) s m args below meth c H locs 0 0 Q (F0 m 234 ls []) := by
              intro z763 z764 z765 z766 hy; obtain ⟨rfl, rfl, rfl, rfl⟩ := sm4 hy
              intro H locs hP hD hS ls hl
              obtain ⟨y767, ey767⟩ : ∃ y : Int32, y = w389 + (1 : Int32) := ⟨_, rfl⟩
              have hf := nmeU ey767 hf
              refine lv_iinc (v := y767) (lv' := [(4, .int y767), (0, .ref q_t), (1, .int v1), (2, .int z763), (3, .int z764)]) hx hb dX8_all_234 hl (k := 4) rfl (by rw [ey767]; rfl) (by decide) rfl (fun ls hl => ?_)
              refine lv_goto (tgt := 21) hx hb dX8_all_237 (by decide) ?_
              exact ih _ _ _ _ _ hf H locs hP hD hS ls (lv_sub hl [1, 2, 3, 4, 0] rfl)
            have L674 : ∀ (k : Nat) (w664 : Int32) (w665 : Int32) (w666 : Int32) (w667 : Nat → Int32) (w668 : Nat → Int32), fX8_all_146 fu z557 t_there z558 t_does t_bad k w664 w665 w666 w667 w668 = some (u669, u670, u671, u672) → ∀ (H : Heap) (locs : List Loc), va_P D vwCl [(q_t, .inr (8, [.int t_there, .ref q_t_book, .ref q_t_now, .ref q_t_does, .ref q_t_bad, .ref q_t_likes, .int t_sights, .ref q_t_sight, .int t_signs, .ref q_t_pad, .ref q_t_then, .int t_worseAt, .int t_worseWho, .int t_hours, .ref q_t_ahead, .int t_reason, .int t_acts, .ref q_t_most, .ref q_t_worth, .ref q_t_damp, .ref q_t_next, .ref q_t_image, .ref q_t_isKept])), (q_t_book, .inl (G 0, 26, .inl t_book)), (q_t_now, .inl (G 0, 26, .inl w667)), (q_t_does, .inl (G 0, 12, .inl t_does)), (q_t_bad, .inl (G 0, 36, .inl t_bad)), (q_t_then, .inl (G 0, 18, .inl w668))] H → va_D A [(q_t, .inr (8, [.int t_there, .ref q_t_book, .ref q_t_now, .ref q_t_does, .ref q_t_bad, .ref q_t_likes, .int t_sights, .ref q_t_sight, .int t_signs, .ref q_t_pad, .ref q_t_then, .int t_worseAt, .int t_worseWho, .int t_hours, .ref q_t_ahead, .int t_reason, .int t_acts, .ref q_t_most, .ref q_t_worth, .ref q_t_damp, .ref q_t_next, .ref q_t_image, .ref q_t_isKept])), (q_t_book, .inl (G 0, 26, .inl t_book)), (q_t_now, .inl (G 0, 26, .inl w667)), (q_t_does, .inl (G 0, 12, .inl t_does)), (q_t_bad, .inl (G 0, 36, .inl t_bad)), (q_t_then, .inl (G 0, 18, .inl w668))] → va_S A s.heap H locs → ∀ ls : Array Slot, lv_has ls 10 [(0, .ref q_t), (1, .int v1), (2, .int w664), (3, .int w665), (4, .int w389), (5, .int z557), (6, .int z558), (7, .int w666)] → W p l e (kR 3 106) s m args below meth c H locs 0 0 Q (F0 m 146 ls []) := by
              intro k; induction k with
              | zero => intro w664 w665 w666 w667 w668 hf; exact nosome hf
              | succ k ih =>
                intro w664 w665 w666 w667 w668 hf; rw [fX8_all_146] at hf
                intro H locs hP hD hS ls hl
                refine lv_iload hx hb dX8_all_146 (lv_at hl 7 rfl) ?_
                refine lv_bipush (v := (21 : Int32)) hx hb dX8_all_148 (by decide) ?_
                refine lv_icmp_ge (tgt := 234) hx hb dX8_all_150 (by decide) (fun c679 => ?_) (fun c679 => ?_)
                · have hf := ifp c679 hf
                  exact E673 _ _ _ _ hf H locs hP hD hS ls (lv_sub hl [0, 1, 2, 3, 4] rfl)
                · have hf := ifn c679 hf
                  refine lv_iload hx hb dX8_all_153 (lv_at hl 7 rfl) ?_
                  refine lv_iload_n hx hb dX8_all_155 rfl (lv_at hl 3 rfl) ?_
                  refine lv_icmp_ge (tgt := 234) hx hb dX8_all_156 (by decide) (fun c680 => ?_) (fun c680 => ?_)
                  · have hf := ifp c680 hf
                    exact E673 _ _ _ _ hf H locs hP hD hS ls (lv_sub hl [0, 1, 2, 3, 4] rfl)
                  · have hf := ifn c680 hf
                    refine lv_iload hx hb dX8_all_159 (lv_at hl 5 rfl) ?_
                    refine lv_if_eq (tgt := 234) hx hb dX8_all_161 (by decide) (fun c681 => ?_) (fun c681 => ?_)
                    · have hf := ifp c681 hf
                      exact E673 _ _ _ _ hf H locs hP hD hS ls (lv_sub hl [0, 1, 2, 3, 4] rfl)
                    · have hf := ifn c681 hf
                      refine lv_iconst (v := (0 : Int32)) hx hb dX8_all_164 (by decide) ?_
                      refine lv_istore (lv' := [(8, .int (0 : Int32)), (0, .ref q_t), (1, .int v1), (2, .int w664), (3, .int w665), (4, .int w389), (5, .int z557), (6, .int z558), (7, .int w666)]) hx hb dX8_all_165 hl (by decide) rfl (fun ls hl => ?_)
                      refine lv_iconst (v := (0 : Int32)) hx hb dX8_all_167 (by decide) ?_
                      refine lv_istore (lv' := [(9, .int (0 : Int32)), (8, .int (0 : Int32)), (0, .ref q_t), (1, .int v1), (2, .int w664), (3, .int w665), (4, .int w389), (5, .int z557), (6, .int z558), (7, .int w666)]) hx hb dX8_all_168 hl (by decide) rfl (fun ls hl => ?_)
                      obtain ⟨u721, h725, hf⟩ := bd1E hf
                      have E722 : ∀ (z743 : Int32), some z743 = some u721 → ∀ (H : Heap) (locs : List Loc), va_P D vwCl [(q_t, .inr (8, [.int t_there, .ref q_t_book, .ref q_t_now, .ref q_t_does, .ref q_t_bad, .ref q_t_likes, .int t_sights, .ref q_t_sight, .int t_signs, .ref q_t_pad, .ref q_t_then, .int t_worseAt, .int t_worseWho, .int t_hours, .ref q_t_ahead, .int t_reason, .int t_acts, .ref q_t_most, .ref q_t_worth, .ref q_t_damp, .ref q_t_next, .ref q_t_image, .ref q_t_isKept])), (q_t_book, .inl (G 0, 26, .inl t_book)), (q_t_now, .inl (G 0, 26, .inl w667)), (q_t_does, .inl (G 0, 12, .inl t_does)), (q_t_bad, .inl (G 0, 36, .inl t_bad)), (q_t_then, .inl (G 0, 18, .inl w668))] H → va_D A [(q_t, .inr (8, [.int t_there, .ref q_t_book, .ref q_t_now, .ref q_t_does, .ref q_t_bad, .ref q_t_likes, .int t_sights, .ref q_t_sight, .int t_signs, .ref q_t_pad, .ref q_t_then, .int t_worseAt, .int t_worseWho, .int t_hours, .ref q_t_ahead, .int t_reason, .int t_acts, .ref q_t_most, .ref q_t_worth, .ref q_t_damp, .ref q_t_next, .ref q_t_image, .ref q_t_isKept])), (q_t_book, .inl (G 0, 26, .inl t_book)), (q_t_now, .inl (G 0, 26, .inl w667)), (q_t_does, .inl (G 0, 12, .inl t_does)), (q_t_bad, .inl (G 0, 36, .inl t_bad)), (q_t_then, .inl (G 0, 18, .inl w668))] → va_S A s.heap H locs → ∀ ls : Array Slot, lv_has ls 10 [(0, .ref q_t), (1, .int v1), (2, .int w664), (3, .int w665), (4, .int w389), (5, .int z557), (6, .int z558), (7, .int w666), (8, .int z743)] → W p l e (kR 3 106) s m args below meth c H locs 0 0 Q (F0 m 210 ls []) := by
                        intro z743 hy; obtain rfl := sm1 hy
                        intro H locs hP hD hS ls hl
                        refine lv_iload hx hb dX8_all_210 (lv_at hl 8 rfl) ?_
                        obtain ⟨j748, j749, j750, j751, h762, hf⟩ := bd4E hf
                        have E757 : ∀ (z752 : Int32) (z753 : Int32) (z754 : Nat → Int32) (z755 : Nat → Int32), some (z752, z753, z754, z755) = some (j748, j749, j750, j751) → ∀ (H : Heap) (locs : List Loc), va_P D vwCl [(q_t, .inr (8, [.int t_there, .ref q_t_book, .ref q_t_now, .ref q_t_does, .ref q_t_bad, .ref q_t_likes, .int t_sights, .ref q_t_sight, .int t_signs, .ref q_t_pad, .ref q_t_then, .int t_worseAt, .int t_worseWho, .int t_hours, .ref q_t_ahead, .int t_reason, .int t_acts, .ref q_t_most, .ref q_t_worth, .ref q_t_damp, .ref q_t_next, .ref q_t_image, .ref q_t_isKept])), (q_t_book, .inl (G 0, 26, .inl t_book)), (q_t_now, .inl (G 0, 26, .inl z754)), (q_t_does, .inl (G 0, 12, .inl t_does)), (q_t_bad, .inl (G 0, 36, .inl t_bad)), (q_t_then, .inl (G 0, 18, .inl z755))] H → va_D A [(q_t, .inr (8, [.int t_there, .ref q_t_book, .ref q_t_now, .ref q_t_does, .ref q_t_bad, .ref q_t_likes, .int t_sights, .ref q_t_sight, .int t_signs, .ref q_t_pad, .ref q_t_then, .int t_worseAt, .int t_worseWho, .int t_hours, .ref q_t_ahead, .int t_reason, .int t_acts, .ref q_t_most, .ref q_t_worth, .ref q_t_damp, .ref q_t_next, .ref q_t_image, .ref q_t_isKept])), (q_t_book, .inl (G 0, 26, .inl t_book)), (q_t_now, .inl (G 0, 26, .inl z754)), (q_t_does, .inl (G 0, 12, .inl t_does)), (q_t_bad, .inl (G 0, 36, .inl t_bad)), (q_t_then, .inl (G 0, 18, .inl z755))] → va_S A s.heap H locs → ∀ ls : Array Slot, lv_has ls 10 [(0, .ref q_t), (1, .int v1), (2, .int z752), (3, .int z753), (4, .int w389), (5, .int z557), (6, .int z558), (7, .int w666)] → W p l e (kR 3 106) s m args below meth c H locs 0 0 Q (F0 m 228 ls []) := by
                          intro z752 z753 z754 z755 hy; obtain ⟨rfl, rfl, rfl, rfl⟩ := sm4 hy
                          intro H locs hP hD hS ls hl
                          obtain ⟨y756, ey756⟩ : ∃ y : Int32, y = w666 + (1 : Int32) := ⟨_, rfl⟩
                          have hf := nmeU ey756 hf
                          refine lv_iinc (v := y756) (lv' := [(7, .int y756), (0, .ref q_t), (1, .int v1), (2, .int z752), (3, .int z753), (4, .int w389), (5, .int z557), (6, .int z558)]) hx hb dX8_all_228 hl (k := 7) rfl (by rw [ey756]; rfl) (by decide) rfl (fun ls hl => ?_)
                          refine lv_goto (tgt := 146) hx hb dX8_all_231 (by decide) ?_
                          exact ih _ _ _ _ _ hf H locs hP hD hS ls (lv_sub hl [1, 2, 3, 4, 5, 6, 7, 0] rfl)
                        have hf := h762
                        refine lv_if_ne (tgt := 224) hx hb dX8_all_212 (by decide) (fun c758 => ?_) (fun c758 => ?_)
                        · have hf := ifn c758 hf
                          refine lv_aload_n hx hb dX8_all_224 rfl (lv_at hl 0 rfl) ?_
                          obtain ⟨o759, o760, h761, hf⟩ := bd2E hf
                          refine kW_virt0 hx hb hml hown hts hK hn hA hP hD hS (kX8_hour l D G fu q_t q_t_book q_t_now q_t_does q_t_bad q_t_likes q_t_sight q_t_pad q_t_then q_t_ahead q_t_most q_t_worth q_t_damp q_t_next q_t_image q_t_isKept t_there t_sights t_signs t_worseAt t_worseWho t_hours t_reason t_acts w667 t_does t_bad w668 h761) cvX8_93 ⟨Nat.le_of_ble_eq_true rfl, Nat.le_of_ble_eq_true rfl⟩ [0, 2, 3, 4, 5] rfl rfl [true, false, true, true, true, true] rfl (w3 := [(q_t, .inr (8, [.int t_there, .ref q_t_book, .ref q_t_now, .ref q_t_does, .ref q_t_bad, .ref q_t_likes, .int t_sights, .ref q_t_sight, .int t_signs, .ref q_t_pad, .ref q_t_then, .int t_worseAt, .int t_worseWho, .int t_hours, .ref q_t_ahead, .int t_reason, .int t_acts, .ref q_t_most, .ref q_t_worth, .ref q_t_damp, .ref q_t_next, .ref q_t_image, .ref q_t_isKept])), (q_t_now, .inl (G 0, 26, .inl o759)), (q_t_does, .inl (G 0, 12, .inl t_does)), (q_t_bad, .inl (G 0, 36, .inl t_bad)), (q_t_then, .inl (G 0, 18, .inl o760))]) [0, 1, 2, 3, 4] rfl rfl 0 rfl rfl rfl hl.1 rfl (Nat.le_of_ble_eq_true rfl) ⟨Nat.zero_le _, Nat.zero_le _⟩ dX8_all_225 (fun H locs hP hD hS => ?_)
                          have hP : va_P D vwCl [(q_t, .inr (8, [.int t_there, .ref q_t_book, .ref q_t_now, .ref q_t_does, .ref q_t_bad, .ref q_t_likes, .int t_sights, .ref q_t_sight, .int t_signs, .ref q_t_pad, .ref q_t_then, .int t_worseAt, .int t_worseWho, .int t_hours, .ref q_t_ahead, .int t_reason, .int t_acts, .ref q_t_most, .ref q_t_worth, .ref q_t_damp, .ref q_t_next, .ref q_t_image, .ref q_t_isKept])), (q_t_book, .inl (G 0, 26, .inl t_book)), (q_t_now, .inl (G 0, 26, .inl o759)), (q_t_does, .inl (G 0, 12, .inl t_does)), (q_t_bad, .inl (G 0, 36, .inl t_bad)), (q_t_then, .inl (G 0, 18, .inl o760))] H := hP
                          have hD : va_D A [(q_t, .inr (8, [.int t_there, .ref q_t_book, .ref q_t_now, .ref q_t_does, .ref q_t_bad, .ref q_t_likes, .int t_sights, .ref q_t_sight, .int t_signs, .ref q_t_pad, .ref q_t_then, .int t_worseAt, .int t_worseWho, .int t_hours, .ref q_t_ahead, .int t_reason, .int t_acts, .ref q_t_most, .ref q_t_worth, .ref q_t_damp, .ref q_t_next, .ref q_t_image, .ref q_t_isKept])), (q_t_book, .inl (G 0, 26, .inl t_book)), (q_t_now, .inl (G 0, 26, .inl o759)), (q_t_does, .inl (G 0, 12, .inl t_does)), (q_t_bad, .inl (G 0, 36, .inl t_bad)), (q_t_then, .inl (G 0, 18, .inl o760))] := hD
                          exact E757 _ _ _ _ hf H locs hP hD hS ls (lv_sub hl [0, 1, 2, 3, 4, 5, 6, 7] rfl)
                        · have hf := ifp c758 hf
                          refine lv_iload hx hb dX8_all_215 (lv_at hl 7 rfl) ?_
                          refine lv_istore_n (lv' := [(3, .int w666), (0, .ref q_t), (1, .int v1), (2, .int w664), (4, .int w389), (5, .int z557), (6, .int z558), (7, .int w666), (8, .int z743)]) hx hb dX8_all_217 rfl hl (by decide) rfl (fun ls hl => ?_)
                          refine lv_iload hx hb dX8_all_218 (lv_at hl 6 rfl) ?_
                          refine lv_istore_n (lv' := [(2, .int z558), (3, .int w666), (0, .ref q_t), (1, .int v1), (4, .int w389), (5, .int z557), (6, .int z558), (7, .int w666), (8, .int z743)]) hx hb dX8_all_220 rfl hl (by decide) rfl (fun ls hl => ?_)
                          refine lv_goto (tgt := 228) hx hb dX8_all_221 (by decide) ?_
                          exact E757 _ _ _ _ hf H locs hP hD hS ls (lv_sub hl [2, 3, 0, 1, 4, 5, 6, 7] rfl)
                      have L723 : ∀ (k : Nat) (w719 : Int32) (w720 : Int32), fX8_all_170 t_there w667 k w719 w720 = some u721 → ∀ (H : Heap) (locs : List Loc), va_P D vwCl [(q_t, .inr (8, [.int t_there, .ref q_t_book, .ref q_t_now, .ref q_t_does, .ref q_t_bad, .ref q_t_likes, .int t_sights, .ref q_t_sight, .int t_signs, .ref q_t_pad, .ref q_t_then, .int t_worseAt, .int t_worseWho, .int t_hours, .ref q_t_ahead, .int t_reason, .int t_acts, .ref q_t_most, .ref q_t_worth, .ref q_t_damp, .ref q_t_next, .ref q_t_image, .ref q_t_isKept])), (q_t_book, .inl (G 0, 26, .inl t_book)), (q_t_now, .inl (G 0, 26, .inl w667)), (q_t_does, .inl (G 0, 12, .inl t_does)), (q_t_bad, .inl (G 0, 36, .inl t_bad)), (q_t_then, .inl (G 0, 18, .inl w668))] H → va_D A [(q_t, .inr (8, [.int t_there, .ref q_t_book, .ref q_t_now, .ref q_t_does, .ref q_t_bad, .ref q_t_likes, .int t_sights, .ref q_t_sight, .int t_signs, .ref q_t_pad, .ref q_t_then, .int t_worseAt, .int t_worseWho, .int t_hours, .ref q_t_ahead, .int t_reason, .int t_acts, .ref q_t_most, .ref q_t_worth, .ref q_t_damp, .ref q_t_next, .ref q_t_image, .ref q_t_isKept])), (q_t_book, .inl (G 0, 26, .inl t_book)), (q_t_now, .inl (G 0, 26, .inl w667)), (q_t_does, .inl (G 0, 12, .inl t_does)), (q_t_bad, .inl (G 0, 36, .inl t_bad)), (q_t_then, .inl (G 0, 18, .inl w668))] → va_S A s.heap H locs → ∀ ls : Array Slot, lv_has ls 10 [(0, .ref q_t), (1, .int v1), (2, .int w664), (3, .int w665), (4, .int w389), (5, .int z557), (6, .int z558), (7, .int w666), (8, .int w719), (9, .int w720)] → W p l e (kR 3 106) s m args below meth c H locs 0 0 Q (F0 m 170 ls []) := by
                        intro k; induction k with
                        | zero => intro w719 w720 hf; exact nosome hf
                        | succ k ih =>
                          intro w719 w720 hf; rw [fX8_all_170] at hf
                          intro H locs hP hD hS ls hl
                          refine lv_iload hx hb dX8_all_170 (lv_at hl 9 rfl) ?_
                          refine lv_bipush (v := (6 : Int32)) hx hb dX8_all_172 (by decide) ?_
                          refine lv_icmp_ge (tgt := 210) hx hb dX8_all_174 (by decide) (fun c728 => ?_) (fun c728 => ?_)
                          · have hf := ifp c728 hf
                            exact E722 _ hf H locs hP hD hS ls (lv_sub hl [0, 1, 2, 3, 4, 5, 6, 7, 8] rfl)
                          · have hf := ifn c728 hf
                            refine lv_iload hx hb dX8_all_177 (lv_at hl 8 rfl) ?_
                            refine lv_aload_n hx hb dX8_all_179 rfl (lv_at hl 0 rfl) ?_
                            refine va_get (D := D) (ci := 8) (v := .int t_there) (C := RX8) (T := TX8) (N := 23) hx hb hts inX8 hown hK hP 0 rfl rfl 0 (by decide) (hts _ lfX8_57) (fun _ h9 => h9) rfl dX8_all_180 ?_
                            refine lv_iload hx hb dX8_all_183 (lv_at hl 9 rfl) ?_
                            obtain ⟨r729, h730, hf⟩ := bd1E hf
                            refine kO_stat hx hb hml hown hts hK hn hP (kX8_has l D G t_there w720 h730) csX8_65 ⟨Nat.le_of_ble_eq_true rfl, Nat.le_of_ble_eq_true rfl⟩ [] rfl rfl hl.1 rfl (Nat.le_of_ble_eq_true rfl) ⟨Nat.zero_le _, Nat.zero_le _⟩ dX8_all_185 ?_
                            obtain ⟨j734, h742, hf⟩ := bd1E hf
                            have E738 : ∀ (z735 : Int32), some z735 = some j734 → ∀ (H : Heap) (locs : List Loc), va_P D vwCl [(q_t, .inr (8, [.int t_there, .ref q_t_book, .ref q_t_now, .ref q_t_does, .ref q_t_bad, .ref q_t_likes, .int t_sights, .ref q_t_sight, .int t_signs, .ref q_t_pad, .ref q_t_then, .int t_worseAt, .int t_worseWho, .int t_hours, .ref q_t_ahead, .int t_reason, .int t_acts, .ref q_t_most, .ref q_t_worth, .ref q_t_damp, .ref q_t_next, .ref q_t_image, .ref q_t_isKept])), (q_t_book, .inl (G 0, 26, .inl t_book)), (q_t_now, .inl (G 0, 26, .inl w667)), (q_t_does, .inl (G 0, 12, .inl t_does)), (q_t_bad, .inl (G 0, 36, .inl t_bad)), (q_t_then, .inl (G 0, 18, .inl w668))] H → va_D A [(q_t, .inr (8, [.int t_there, .ref q_t_book, .ref q_t_now, .ref q_t_does, .ref q_t_bad, .ref q_t_likes, .int t_sights, .ref q_t_sight, .int t_signs, .ref q_t_pad, .ref q_t_then, .int t_worseAt, .int t_worseWho, .int t_hours, .ref q_t_ahead, .int t_reason, .int t_acts, .ref q_t_most, .ref q_t_worth, .ref q_t_damp, .ref q_t_next, .ref q_t_image, .ref q_t_isKept])), (q_t_book, .inl (G 0, 26, .inl t_book)), (q_t_now, .inl (G 0, 26, .inl w667)), (q_t_does, .inl (G 0, 12, .inl t_does)), (q_t_bad, .inl (G 0, 36, .inl t_bad)), (q_t_then, .inl (G 0, 18, .inl w668))] → va_S A s.heap H locs → ∀ ls : Array Slot, lv_has ls 10 [(0, .ref q_t), (1, .int v1), (2, .int w664), (3, .int w665), (4, .int w389), (5, .int z557), (6, .int z558), (7, .int w666), (9, .int w720)] → W p l e (kR 3 106) s m args below meth c H locs 0 0 Q (F0 m 201 ls [.int z735, .int w719]) := by
                              intro z735 hy; obtain rfl := sm1 hy
                              intro H locs hP hD hS ls hl
                              refine lv_iadd hx hb dX8_all_201 ?_
                              refine lv_topi (fun y736 ey736 => ?_)
                              have hf := nmeU ey736 hf
                              refine lv_istore (lv' := [(8, .int y736), (0, .ref q_t), (1, .int v1), (2, .int w664), (3, .int w665), (4, .int w389), (5, .int z557), (6, .int z558), (7, .int w666), (9, .int w720)]) hx hb dX8_all_202 hl (by decide) rfl (fun ls hl => ?_)
                              obtain ⟨y737, ey737⟩ : ∃ y : Int32, y = w720 + (1 : Int32) := ⟨_, rfl⟩
                              have hf := nmeU ey737 hf
                              refine lv_iinc (v := y737) (lv' := [(9, .int y737), (8, .int y736), (0, .ref q_t), (1, .int v1), (2, .int w664), (3, .int w665), (4, .int w389), (5, .int z557), (6, .int z558), (7, .int w666)]) hx hb dX8_all_204 hl (k := 9) rfl (by rw [ey737]; rfl) (by decide) rfl (fun ls hl => ?_)
                              refine lv_goto (tgt := 170) hx hb dX8_all_207 (by decide) ?_
                              exact ih _ _ hf H locs hP hD hS ls (lv_sub hl [2, 3, 4, 5, 6, 7, 8, 9, 1, 0] rfl)
                            have hf := h742
                            refine lv_if_eq (tgt := 200) hx hb dX8_all_188 (by decide) (fun c739 => ?_) (fun c739 => ?_)
                            · have hf := ifp c739 hf
                              refine lv_iconst (v := (0 : Int32)) hx hb dX8_all_200 (by decide) ?_
                              exact E738 _ hf H locs hP hD hS ls (lv_sub hl [0, 1, 2, 3, 4, 5, 6, 7, 9] rfl)
                            · have hf := ifn c739 hf
                              refine lv_aload_n hx hb dX8_all_191 rfl (lv_at hl 0 rfl) ?_
                              refine lv_iload hx hb dX8_all_192 (lv_at hl 9 rfl) ?_
                              obtain ⟨r740, h741, hf⟩ := bd1E hf
                              refine kO_virt hx hb hml hown hts hK hn hP (kX8_illsOf l D G q_t q_t_book q_t_now q_t_does q_t_bad q_t_likes q_t_sight q_t_pad q_t_then q_t_ahead q_t_most q_t_worth q_t_damp q_t_next q_t_image q_t_isKept t_there t_sights t_signs t_worseAt t_worseWho t_hours t_reason t_acts w667 w720 h741) cvX8_90 ⟨Nat.le_of_ble_eq_true rfl, Nat.le_of_ble_eq_true rfl⟩ [0, 2] rfl 0 rfl rfl rfl hl.1 rfl (Nat.le_of_ble_eq_true rfl) ⟨Nat.zero_le _, Nat.zero_le _⟩ dX8_all_194 ?_
                              refine lv_goto (tgt := 201) hx hb dX8_all_197 (by decide) ?_
                              exact E738 _ hf H locs hP hD hS ls (lv_sub hl [0, 1, 2, 3, 4, 5, 6, 7, 9] rfl)
                      exact L723 fu (0 : Int32) (0 : Int32) h725 H locs hP hD hS ls (lv_sub hl [2, 3, 4, 5, 6, 7, 8, 9, 1, 0] rfl)
            exact L674 fu w387 w388 (0 : Int32) z559 w391 h676 H locs hP hD hS ls (lv_sub hl [1, 2, 3, 4, 5, 6, 7, 0] rfl)
          have L493 : ∀ (k : Nat) (w485 : Int32) (w486 : Int32) (w487 : Int32) (w488 : Nat → Int32), fX8_all_50 w389 t_there k w485 w486 w487 w488 = some (u489, u490, u491) → ∀ (H : Heap) (locs : List Loc), va_P D vwCl [(q_t, .inr (8, [.int t_there, .ref q_t_book, .ref q_t_now, .ref q_t_does, .ref q_t_bad, .ref q_t_likes, .int t_sights, .ref q_t_sight, .int t_signs, .ref q_t_pad, .ref q_t_then, .int t_worseAt, .int t_worseWho, .int t_hours, .ref q_t_ahead, .int t_reason, .int t_acts, .ref q_t_most, .ref q_t_worth, .ref q_t_damp, .ref q_t_next, .ref q_t_image, .ref q_t_isKept])), (q_t_book, .inl (G 0, 26, .inl t_book)), (q_t_now, .inl (G 0, 26, .inl w488)), (q_t_does, .inl (G 0, 12, .inl t_does)), (q_t_bad, .inl (G 0, 36, .inl t_bad)), (q_t_then, .inl (G 0, 18, .inl w391))] H → va_D A [(q_t, .inr (8, [.int t_there, .ref q_t_book, .ref q_t_now, .ref q_t_does, .ref q_t_bad, .ref q_t_likes, .int t_sights, .ref q_t_sight, .int t_signs, .ref q_t_pad, .ref q_t_then, .int t_worseAt, .int t_worseWho, .int t_hours, .ref q_t_ahead, .int t_reason, .int t_acts, .ref q_t_most, .ref q_t_worth, .ref q_t_damp, .ref q_t_next, .ref q_t_image, .ref q_t_isKept])), (q_t_book, .inl (G 0, 26, .inl t_book)), (q_t_now, .inl (G 0, 26, .inl w488)), (q_t_does, .inl (G 0, 12, .inl t_does)), (q_t_bad, .inl (G 0, 36, .inl t_bad)), (q_t_then, .inl (G 0, 18, .inl w391))] → va_S A s.heap H locs → ∀ ls : Array Slot, lv_has ls 10 [(0, .ref q_t), (1, .int v1), (2, .int w387), (3, .int w388), (4, .int w389), (5, .int w485), (6, .int w486), (7, .int w487)] → W p l e (kR 3 106) s m args below meth c H locs 0 0 Q (F0 m 50 ls []) := by
            intro k; induction k with
            | zero => intro w485 w486 w487 w488 hf; exact nosome hf
            | succ k ih =>
              intro w485 w486 w487 w488 hf; rw [fX8_all_50] at hf
              intro H locs hP hD hS ls hl
              refine lv_iload hx hb dX8_all_50 (lv_at hl 7 rfl) ?_
              refine lv_bipush (v := (6 : Int32)) hx hb dX8_all_52 (by decide) ?_
              refine lv_icmp_ge (tgt := 143) hx hb dX8_all_54 (by decide) (fun c498 => ?_) (fun c498 => ?_)
              · have hf := ifp c498 hf
                exact E492 _ _ _ hf H locs hP hD hS ls (lv_sub hl [0, 1, 2, 3, 4, 5, 6] rfl)
              · have hf := ifn c498 hf
                refine lv_iload hx hb dX8_all_57 (lv_at hl 4 rfl) ?_
                refine lv_iconst (v := (2 : Int32)) hx hb dX8_all_59 (by decide) ?_
                refine lv_iconst (v := (5 : Int32)) hx hb dX8_all_60 (by decide) ?_
                refine lv_iload hx hb dX8_all_61 (lv_at hl 7 rfl) ?_
                refine lv_isub hx hb dX8_all_63 ?_
                refine lv_imul hx hb dX8_all_64 ?_
                refine lv_ishr hx hb dX8_all_65 ?_
                refine lv_iconst (v := (3 : Int32)) hx hb dX8_all_66 (by decide) ?_
                refine lv_iand hx hb dX8_all_67 ?_
                refine lv_topi (fun y499 ey499 => ?_)
                have hf := nmeU ey499 hf
                refine lv_istore (lv' := [(8, .int y499), (0, .ref q_t), (1, .int v1), (2, .int w387), (3, .int w388), (4, .int w389), (5, .int w485), (6, .int w486), (7, .int w487)]) hx hb dX8_all_68 hl (by decide) rfl (fun ls hl => ?_)
                refine lv_aload_n hx hb dX8_all_70 rfl (lv_at hl 1 rfl) ?_
                refine va_get (D := D) (ci := 8) (v := .ref q_t_now) (C := RX8) (T := TX8) (N := 23) hx hb hts inX8 hown hK hP 0 rfl rfl 2 (by decide) (hts _ lfX8_13) (fun _ h9 => h9) rfl dX8_all_71 ?_
                refine lv_bipush (v := (18 : Int32)) hx hb dX8_all_74 (by decide) ?_
                refine lv_iload hx hb dX8_all_76 (lv_at hl 8 rfl) ?_
                refine lv_iadd hx hb dX8_all_78 ?_
                refine lv_iload hx hb dX8_all_79 (lv_at hl 0 rfl) ?_
                obtain ⟨g500, eg500, ig500, hf⟩ := stIE hf
                refine k_iast hx hb hK hP hD hS 2 0 rfl rfl ig500 eg500 dX8_all_81 (fun H locs hP hD hS => ?_)
                have hP : va_P D vwCl [(q_t, .inr (8, [.int t_there, .ref q_t_book, .ref q_t_now, .ref q_t_does, .ref q_t_bad, .ref q_t_likes, .int t_sights, .ref q_t_sight, .int t_signs, .ref q_t_pad, .ref q_t_then, .int t_worseAt, .int t_worseWho, .int t_hours, .ref q_t_ahead, .int t_reason, .int t_acts, .ref q_t_most, .ref q_t_worth, .ref q_t_damp, .ref q_t_next, .ref q_t_image, .ref q_t_isKept])), (q_t_book, .inl (G 0, 26, .inl t_book)), (q_t_now, .inl (G 0, 26, .inl g500)), (q_t_does, .inl (G 0, 12, .inl t_does)), (q_t_bad, .inl (G 0, 36, .inl t_bad)), (q_t_then, .inl (G 0, 18, .inl w391))] H := hP
                have hD : va_D A [(q_t, .inr (8, [.int t_there, .ref q_t_book, .ref q_t_now, .ref q_t_does, .ref q_t_bad, .ref q_t_likes, .int t_sights, .ref q_t_sight, .int t_signs, .ref q_t_pad, .ref q_t_then, .int t_worseAt, .int t_worseWho, .int t_hours, .ref q_t_ahead, .int t_reason, .int t_acts, .ref q_t_most, .ref q_t_worth, .ref q_t_damp, .ref q_t_next, .ref q_t_image, .ref q_t_isKept])), (q_t_book, .inl (G 0, 26, .inl t_book)), (q_t_now, .inl (G 0, 26, .inl g500)), (q_t_does, .inl (G 0, 12, .inl t_does)), (q_t_bad, .inl (G 0, 36, .inl t_bad)), (q_t_then, .inl (G 0, 18, .inl w391))] := hD
                refine lv_iload hx hb dX8_all_82 (lv_at hl 6 rfl) ?_
                obtain ⟨j522, h556, hf⟩ := bd1E hf
                have E534 : ∀ (z523 : Int32), some z523 = some j522 → ∀ (H : Heap) (locs : List Loc), va_P D vwCl [(q_t, .inr (8, [.int t_there, .ref q_t_book, .ref q_t_now, .ref q_t_does, .ref q_t_bad, .ref q_t_likes, .int t_sights, .ref q_t_sight, .int t_signs, .ref q_t_pad, .ref q_t_then, .int t_worseAt, .int t_worseWho, .int t_hours, .ref q_t_ahead, .int t_reason, .int t_acts, .ref q_t_most, .ref q_t_worth, .ref q_t_damp, .ref q_t_next, .ref q_t_image, .ref q_t_isKept])), (q_t_book, .inl (G 0, 26, .inl t_book)), (q_t_now, .inl (G 0, 26, .inl g500)), (q_t_does, .inl (G 0, 12, .inl t_does)), (q_t_bad, .inl (G 0, 36, .inl t_bad)), (q_t_then, .inl (G 0, 18, .inl w391))] H → va_D A [(q_t, .inr (8, [.int t_there, .ref q_t_book, .ref q_t_now, .ref q_t_does, .ref q_t_bad, .ref q_t_likes, .int t_sights, .ref q_t_sight, .int t_signs, .ref q_t_pad, .ref q_t_then, .int t_worseAt, .int t_worseWho, .int t_hours, .ref q_t_ahead, .int t_reason, .int t_acts, .ref q_t_most, .ref q_t_worth, .ref q_t_damp, .ref q_t_next, .ref q_t_image, .ref q_t_isKept])), (q_t_book, .inl (G 0, 26, .inl t_book)), (q_t_now, .inl (G 0, 26, .inl g500)), (q_t_does, .inl (G 0, 12, .inl t_does)), (q_t_bad, .inl (G 0, 36, .inl t_bad)), (q_t_then, .inl (G 0, 18, .inl w391))] → va_S A s.heap H locs → ∀ ls : Array Slot, lv_has ls 10 [(0, .ref q_t), (1, .int v1), (2, .int w387), (3, .int w388), (4, .int w389), (6, .int w486), (7, .int w487), (8, .int y499)] → W p l e (kR 3 106) s m args below meth c H locs 0 0 Q (F0 m 109 ls [.int z523]) := by
                  intro z523 hy; obtain rfl := sm1 hy
                  intro H locs hP hD hS ls hl
                  refine lv_istore (lv' := [(5, .int z523), (0, .ref q_t), (1, .int v1), (2, .int w387), (3, .int w388), (4, .int w389), (6, .int w486), (7, .int w487), (8, .int y499)]) hx hb dX8_all_109 hl (by decide) rfl (fun ls hl => ?_)
                  refine lv_bipush (v := (10 : Int32)) hx hb dX8_all_111 (by decide) ?_
                  refine lv_iload hx hb dX8_all_113 (lv_at hl 6 rfl) ?_
                  refine lv_imul hx hb dX8_all_115 ?_
                  refine lv_aload_n hx hb dX8_all_116 rfl (lv_at hl 1 rfl) ?_
                  refine va_get (D := D) (ci := 8) (v := .int t_there) (C := RX8) (T := TX8) (N := 23) hx hb hts inX8 hown hK hP 0 rfl rfl 0 (by decide) (hts _ lfX8_57) (fun _ h9 => h9) rfl dX8_all_117 ?_
                  refine lv_iload hx hb dX8_all_120 (lv_at hl 7 rfl) ?_
                  obtain ⟨r524, h525, hf⟩ := bd1E hf
                  refine kO_stat hx hb hml hown hts hK hn hP (kX8_has l D G t_there w487 h525) csX8_65 ⟨Nat.le_of_ble_eq_true rfl, Nat.le_of_ble_eq_true rfl⟩ [] rfl rfl hl.1 rfl (Nat.le_of_ble_eq_true rfl) ⟨Nat.zero_le _, Nat.zero_le _⟩ dX8_all_122 ?_
                  obtain ⟨j527, h533, hf⟩ := bd1E hf
                  have E531 : ∀ (z528 : Int32), some z528 = some j527 → ∀ (H : Heap) (locs : List Loc), va_P D vwCl [(q_t, .inr (8, [.int t_there, .ref q_t_book, .ref q_t_now, .ref q_t_does, .ref q_t_bad, .ref q_t_likes, .int t_sights, .ref q_t_sight, .int t_signs, .ref q_t_pad, .ref q_t_then, .int t_worseAt, .int t_worseWho, .int t_hours, .ref q_t_ahead, .int t_reason, .int t_acts, .ref q_t_most, .ref q_t_worth, .ref q_t_damp, .ref q_t_next, .ref q_t_image, .ref q_t_isKept])), (q_t_book, .inl (G 0, 26, .inl t_book)), (q_t_now, .inl (G 0, 26, .inl g500)), (q_t_does, .inl (G 0, 12, .inl t_does)), (q_t_bad, .inl (G 0, 36, .inl t_bad)), (q_t_then, .inl (G 0, 18, .inl w391))] H → va_D A [(q_t, .inr (8, [.int t_there, .ref q_t_book, .ref q_t_now, .ref q_t_does, .ref q_t_bad, .ref q_t_likes, .int t_sights, .ref q_t_sight, .int t_signs, .ref q_t_pad, .ref q_t_then, .int t_worseAt, .int t_worseWho, .int t_hours, .ref q_t_ahead, .int t_reason, .int t_acts, .ref q_t_most, .ref q_t_worth, .ref q_t_damp, .ref q_t_next, .ref q_t_image, .ref q_t_isKept])), (q_t_book, .inl (G 0, 26, .inl t_book)), (q_t_now, .inl (G 0, 26, .inl g500)), (q_t_does, .inl (G 0, 12, .inl t_does)), (q_t_bad, .inl (G 0, 36, .inl t_bad)), (q_t_then, .inl (G 0, 18, .inl w391))] → va_S A s.heap H locs → ∀ ls : Array Slot, lv_has ls 10 [(0, .ref q_t), (1, .int v1), (2, .int w387), (3, .int w388), (4, .int w389), (5, .int z523), (7, .int w487)] → W p l e (kR 3 106) s m args below meth c H locs 0 0 Q (F0 m 134 ls [.int z528, .int ((10 : Int32) * w486)]) := by
                    intro z528 hy; obtain rfl := sm1 hy
                    intro H locs hP hD hS ls hl
                    refine lv_iadd hx hb dX8_all_134 ?_
                    refine lv_topi (fun y529 ey529 => ?_)
                    have hf := nmeU ey529 hf
                    refine lv_istore (lv' := [(6, .int y529), (0, .ref q_t), (1, .int v1), (2, .int w387), (3, .int w388), (4, .int w389), (5, .int z523), (7, .int w487)]) hx hb dX8_all_135 hl (by decide) rfl (fun ls hl => ?_)
                    obtain ⟨y530, ey530⟩ : ∃ y : Int32, y = w487 + (1 : Int32) := ⟨_, rfl⟩
                    have hf := nmeU ey530 hf
                    refine lv_iinc (v := y530) (lv' := [(7, .int y530), (6, .int y529), (0, .ref q_t), (1, .int v1), (2, .int w387), (3, .int w388), (4, .int w389), (5, .int z523)]) hx hb dX8_all_137 hl (k := 7) rfl (by rw [ey530]; rfl) (by decide) rfl (fun ls hl => ?_)
                    refine lv_goto (tgt := 50) hx hb dX8_all_140 (by decide) ?_
                    exact ih _ _ _ _ hf H locs hP hD hS ls (lv_sub hl [2, 3, 4, 5, 6, 7, 1, 0] rfl)
                  have hf := h533
                  refine lv_if_eq (tgt := 133) hx hb dX8_all_125 (by decide) (fun c532 => ?_) (fun c532 => ?_)
                  · have hf := ifp c532 hf
                    refine lv_iconst (v := (4 : Int32)) hx hb dX8_all_133 (by decide) ?_
                    exact E531 _ hf H locs hP hD hS ls (lv_sub hl [1, 2, 3, 4, 5, 0, 7] rfl)
                  · have hf := ifn c532 hf
                    refine lv_iload hx hb dX8_all_128 (lv_at hl 8 rfl) ?_
                    refine lv_goto (tgt := 134) hx hb dX8_all_130 (by decide) ?_
                    exact E531 _ hf H locs hP hD hS ls (lv_sub hl [1, 2, 3, 4, 5, 0, 7] rfl)
                have hf := h556
                refine lv_if_eq (tgt := 108) hx hb dX8_all_84 (by decide) (fun c535 => ?_) (fun c535 => ?_)
                · have hf := ifp c535 hf
                  refine lv_iconst (v := (0 : Int32)) hx hb dX8_all_108 (by decide) ?_
                  exact E534 _ hf H locs hP hD hS ls (lv_sub hl [1, 2, 3, 4, 5, 7, 8, 0] rfl)
                · have hf := ifn c535 hf
                  refine lv_aload_n hx hb dX8_all_87 rfl (lv_at hl 1 rfl) ?_
                  refine va_get (D := D) (ci := 8) (v := .int t_there) (C := RX8) (T := TX8) (N := 23) hx hb hts inX8 hown hK hP 0 rfl rfl 0 (by decide) (hts _ lfX8_57) (fun _ h9 => h9) rfl dX8_all_88 ?_
                  refine lv_iload hx hb dX8_all_91 (lv_at hl 8 rfl) ?_
                  obtain ⟨r536, h537, hf⟩ := bd1E hf
                  refine kO_stat hx hb hml hown hts hK hn hP (kX8_has l D G t_there w487 h537) csX8_65 ⟨Nat.le_of_ble_eq_true rfl, Nat.le_of_ble_eq_true rfl⟩ [] rfl rfl hl.1 rfl (Nat.le_of_ble_eq_true rfl) ⟨Nat.zero_le _, Nat.zero_le _⟩ dX8_all_93 ?_
                  obtain ⟨j545, h555, hf⟩ := bd1E hf
                  have E547 : ∀ (z546 : Int32), some z546 = some j545 → ∀ (H : Heap) (locs : List Loc), va_P D vwCl [(q_t, .inr (8, [.int t_there, .ref q_t_book, .ref q_t_now, .ref q_t_does, .ref q_t_bad, .ref q_t_likes, .int t_sights, .ref q_t_sight, .int t_signs, .ref q_t_pad, .ref q_t_then, .int t_worseAt, .int t_worseWho, .int t_hours, .ref q_t_ahead, .int t_reason, .int t_acts, .ref q_t_most, .ref q_t_worth, .ref q_t_damp, .ref q_t_next, .ref q_t_image, .ref q_t_isKept])), (q_t_book, .inl (G 0, 26, .inl t_book)), (q_t_now, .inl (G 0, 26, .inl g500)), (q_t_does, .inl (G 0, 12, .inl t_does)), (q_t_bad, .inl (G 0, 36, .inl t_bad)), (q_t_then, .inl (G 0, 18, .inl w391))] H → va_D A [(q_t, .inr (8, [.int t_there, .ref q_t_book, .ref q_t_now, .ref q_t_does, .ref q_t_bad, .ref q_t_likes, .int t_sights, .ref q_t_sight, .int t_signs, .ref q_t_pad, .ref q_t_then, .int t_worseAt, .int t_worseWho, .int t_hours, .ref q_t_ahead, .int t_reason, .int t_acts, .ref q_t_most, .ref q_t_worth, .ref q_t_damp, .ref q_t_next, .ref q_t_image, .ref q_t_isKept])), (q_t_book, .inl (G 0, 26, .inl t_book)), (q_t_now, .inl (G 0, 26, .inl g500)), (q_t_does, .inl (G 0, 12, .inl t_does)), (q_t_bad, .inl (G 0, 36, .inl t_bad)), (q_t_then, .inl (G 0, 18, .inl w391))] → va_S A s.heap H locs → ∀ ls : Array Slot, lv_has ls 10 [(0, .ref q_t), (1, .int v1), (2, .int w387), (3, .int w388), (4, .int w389), (6, .int w486), (7, .int w487), (8, .int y499)] → W p l e (kR 3 106) s m args below meth c H locs 0 0 Q (F0 m 109 ls [.int z546]) := by
                    intro z546 hy; obtain rfl := sm1 hy
                    intro H locs hP hD hS ls hl
                    exact E534 _ hf H locs hP hD hS ls (lv_sub hl [0, 1, 2, 3, 4, 5, 6, 7] rfl)
                  have hf := h555
                  refine lv_if_ne (tgt := 104) hx hb dX8_all_96 (by decide) (fun c548 => ?_) (fun c548 => ?_)
                  · have hf := ifn c548 hf
                    refine lv_iconst (v := (1 : Int32)) hx hb dX8_all_104 (by decide) ?_
                    refine lv_goto (tgt := 109) hx hb dX8_all_105 (by decide) ?_
                    exact E547 _ hf H locs hP hD hS ls (lv_sub hl [1, 2, 3, 4, 5, 7, 8, 0] rfl)
                  · have hf := ifp c548 hf
                    refine lv_iload hx hb dX8_all_99 (lv_at hl 0 rfl) ?_
                    obtain ⟨j550, h554, hf⟩ := bd1E hf
                    have E552 : ∀ (z551 : Int32), some z551 = some j550 → ∀ (H : Heap) (locs : List Loc), va_P D vwCl [(q_t, .inr (8, [.int t_there, .ref q_t_book, .ref q_t_now, .ref q_t_does, .ref q_t_bad, .ref q_t_likes, .int t_sights, .ref q_t_sight, .int t_signs, .ref q_t_pad, .ref q_t_then, .int t_worseAt, .int t_worseWho, .int t_hours, .ref q_t_ahead, .int t_reason, .int t_acts, .ref q_t_most, .ref q_t_worth, .ref q_t_damp, .ref q_t_next, .ref q_t_image, .ref q_t_isKept])), (q_t_book, .inl (G 0, 26, .inl t_book)), (q_t_now, .inl (G 0, 26, .inl g500)), (q_t_does, .inl (G 0, 12, .inl t_does)), (q_t_bad, .inl (G 0, 36, .inl t_bad)), (q_t_then, .inl (G 0, 18, .inl w391))] H → va_D A [(q_t, .inr (8, [.int t_there, .ref q_t_book, .ref q_t_now, .ref q_t_does, .ref q_t_bad, .ref q_t_likes, .int t_sights, .ref q_t_sight, .int t_signs, .ref q_t_pad, .ref q_t_then, .int t_worseAt, .int t_worseWho, .int t_hours, .ref q_t_ahead, .int t_reason, .int t_acts, .ref q_t_most, .ref q_t_worth, .ref q_t_damp, .ref q_t_next, .ref q_t_image, .ref q_t_isKept])), (q_t_book, .inl (G 0, 26, .inl t_book)), (q_t_now, .inl (G 0, 26, .inl g500)), (q_t_does, .inl (G 0, 12, .inl t_does)), (q_t_bad, .inl (G 0, 36, .inl t_bad)), (q_t_then, .inl (G 0, 18, .inl w391))] → va_S A s.heap H locs → ∀ ls : Array Slot, lv_has ls 10 [(0, .ref q_t), (1, .int v1), (2, .int w387), (3, .int w388), (4, .int w389), (6, .int w486), (7, .int w487), (8, .int y499)] → W p l e (kR 3 106) s m args below meth c H locs 0 0 Q (F0 m 109 ls [.int z551]) := by
                      intro z551 hy; obtain rfl := sm1 hy
                      intro H locs hP hD hS ls hl
                      exact E547 _ hf H locs hP hD hS ls (lv_sub hl [0, 1, 2, 3, 4, 5, 6, 7] rfl)
                    have hf := h554
                    refine lv_if_ne (tgt := 108) hx hb dX8_all_101 (by decide) (fun c553 => ?_) (fun c553 => ?_)
                    · have hf := ifn c553 hf
                      refine lv_iconst (v := (0 : Int32)) hx hb dX8_all_108 (by decide) ?_
                      exact E552 _ hf H locs hP hD hS ls (lv_sub hl [1, 2, 3, 4, 5, 7, 8, 0] rfl)
                    · have hf := ifp c553 hf
                      refine lv_iconst (v := (1 : Int32)) hx hb dX8_all_104 (by decide) ?_
                      refine lv_goto (tgt := 109) hx hb dX8_all_105 (by decide) ?_
                      exact E552 _ hf H locs hP hD hS ls (lv_sub hl [1, 2, 3, 4, 5, 7, 8, 0] rfl)
          exact L493 fu (1 : Int32) (0 : Int32) (0 : Int32) g405 h495 H locs hP hD hS ls (lv_sub hl [3, 4, 5, 6, 7, 2, 1, 0] rfl)
    exact L397 fu (-6 : Int32) (1000000 : Int32) (0 : Int32) t_now t_then h399 H locs hP hD hS ls (lv_sub hl [3, 4, 2, 1, 0] rfl)
  · have hf := ifp c3 hf
    refine lv_bipush (v := (-2 : Int32)) hx hb dX8_all_9 (by decide) ?_
    exact RT _ _ _ hf _ _ _ H locs dX8_all_11 (rkI _) hP hD hS
set_option maxHeartbeats 4000000 in
set_option maxRecDepth 100000 in
theorem kX8_isThere (l : Launch) (D : va_G) (G : Nat → ClassId) (q_t q_t_book q_t_now q_t_does q_t_bad q_t_likes q_t_sight q_t_pad q_t_then q_t_ahead q_t_most q_t_worth q_t_damp q_t_next q_t_image q_t_isKept : Nat) (t_there : Int32) (t_sights : Int32) (t_signs : Int32) (t_worseAt : Int32) (t_worseWho : Int32) (t_hours : Int32) (t_reason : Int32) (t_acts : Int32) (v1 : Int32) {r : Int32} (hf : fX8_isThere t_there v1 = some r) : rO l D G yX8_isThere cX8_isThere 2 (some .boolean) 2 82 [.ref q_t, .int v1] [(q_t, .inr (8, [.int t_there, .ref q_t_book, .ref q_t_now, .ref q_t_does, .ref q_t_bad, .ref q_t_likes, .int t_sights, .ref q_t_sight, .int t_signs, .ref q_t_pad, .ref q_t_then, .int t_worseAt, .int t_worseWho, .int t_hours, .ref q_t_ahead, .int t_reason, .int t_acts, .ref q_t_most, .ref q_t_worth, .ref q_t_damp, .ref q_t_next, .ref q_t_image, .ref q_t_isKept]))] (some (.int r)) := by
  refine rO_of (by decide) (Nat.le_of_ble_eq_true rfl) ?_
  intro p e s m args below meth c Q hx hb hml hown hts hK hn hP RET ls hl
  have RT : ∀ (a0_ : Int32), some a0_ = some r → ∀ (pc : Nat) (ls : Array Slot) (ins : Instr), decode cX8_isThere pc = .ok (ins, 1) → rk (some .boolean) (some (.int a0_)) ins → W p l e (kR 2 82) s m args below meth c s.heap [] 0 0 Q (F0 m pc ls [.int a0_]) := by
    intro a0_ hy; obtain rfl := sm1 hy
    exact RET
  have hown : s.vm.findClass RX8 = some m.cls := hown
  have hl : lv_has ls 2 [(0, .ref q_t), (1, .int v1)] := hl
  clear RET
  rw [fX8_isThere] at hf
  refine lv_iload_n hx hb dX8_isThere_0 rfl (lv_at hl 1 rfl) ?_
  refine lv_iconst (v := (0 : Int32)) hx hb dX8_isThere_1 (by decide) ?_
  refine lv_iconst (v := (5 : Int32)) hx hb dX8_isThere_2 (by decide) ?_
  obtain ⟨r1, h2, hf⟩ := bd1E hf
  refine kO_stat hx hb hml hown hts hK hn hP (kX8_in l D G v1 (0 : Int32) (5 : Int32) h2) csX8_61 ⟨Nat.le_of_ble_eq_true rfl, Nat.le_of_ble_eq_true rfl⟩ [] rfl rfl hl.1 rfl (Nat.le_of_ble_eq_true rfl) ⟨Nat.zero_le _, Nat.zero_le _⟩ dX8_isThere_3 ?_
  refine lv_if_eq (tgt := 24) hx hb dX8_isThere_6 (by decide) (fun c3 => ?_) (fun c3 => ?_)
  · have hf := ifp c3 hf
    refine lv_iconst (v := (0 : Int32)) hx hb dX8_isThere_24 (by decide) ?_
    exact RT _ hf _ _ _ dX8_isThere_25 (rkZ (Or.inl rfl))
  · have hf := ifn c3 hf
    refine lv_aload_n hx hb dX8_isThere_9 rfl (lv_at hl 0 rfl) ?_
    refine va_get (D := D) (ci := 8) (v := .int t_there) (C := RX8) (T := TX8) (N := 23) hx hb hts inX8 hown hK hP 0 rfl rfl 0 (by decide) (hts _ lfX8_57) (fun _ h9 => h9) rfl dX8_isThere_10 ?_
    refine lv_iload_n hx hb dX8_isThere_13 rfl (lv_at hl 1 rfl) ?_
    obtain ⟨r4, h5, hf⟩ := bd1E hf
    refine kO_stat hx hb hml hown hts hK hn hP (kX8_has l D G t_there v1 h5) csX8_65 ⟨Nat.le_of_ble_eq_true rfl, Nat.le_of_ble_eq_true rfl⟩ [] rfl rfl hl.1 rfl (Nat.le_of_ble_eq_true rfl) ⟨Nat.zero_le _, Nat.zero_le _⟩ dX8_isThere_14 ?_
    refine lv_if_eq (tgt := 24) hx hb dX8_isThere_17 (by decide) (fun c6 => ?_) (fun c6 => ?_)
    · have hf := ifp c6 hf
      refine lv_iconst (v := (0 : Int32)) hx hb dX8_isThere_24 (by decide) ?_
      exact RT _ hf _ _ _ dX8_isThere_25 (rkZ (Or.inl rfl))
    · have hf := ifn c6 hf
      refine lv_iconst (v := (1 : Int32)) hx hb dX8_isThere_20 (by decide) ?_
      refine lv_goto (tgt := 25) hx hb dX8_isThere_21 (by decide) ?_
      exact RT _ hf _ _ _ dX8_isThere_25 (rkZ (Or.inr rfl))
