set_option maxHeartbeats 4000000 in
set_option maxRecDepth 100000 in
theorem kX8_waysIn (l : Launch) (D : va_G) (G : Nat → ClassId) (fu : Nat) (q_t q_t_book q_t_now q_t_does q_t_bad q_t_likes q_t_sight q_t_pad q_t_then q_t_ahead q_t_most q_t_worth q_t_damp q_t_next q_t_image q_t_isKept : Nat) (t_there : Int32) (t_sights : Int32) (t_signs : Int32) (t_worseAt : Int32) (t_worseWho : Int32) (t_hours : Int32) (t_reason : Int32) (t_acts : Int32) (v1 : Int32) (v2 : Int32) (v3 : Int32) {r : Int32} (hf : fX8_waysIn fu t_there v1 v2 v3 = some r) : rO l D G yX8_waysIn cX8_waysIn 12 (some .int) 2 81 [.ref q_t, .int v1, .int v2, .int v3] [(q_t, .inr (8, [.int t_there, .ref q_t_book, .ref q_t_now, .ref q_t_does, .ref q_t_bad, .ref q_t_likes, .int t_sights, .ref q_t_sight, .int t_signs, .ref q_t_pad, .ref q_t_then, .int t_worseAt, .int t_worseWho, .int t_hours, .ref q_t_ahead, .int t_reason, .int t_acts, .ref q_t_most, .ref q_t_worth, .ref q_t_damp, .ref q_t_next, .ref q_t_image, .ref q_t_isKept]))] (some (.int r)) := by
  refine rO_of (by decide) (Nat.le_of_ble_eq_true rfl) ?_
  intro p e s m args below meth c Q hx hb hml hown hts hK hn hP RET ls hl
  have RT : ∀ (a0_ : Int32), some a0_ = some r → ∀ (pc : Nat) (ls : Array Slot) (ins : Instr), decode cX8_waysIn pc = .ok (ins, 1) → rk (some .int) (some (.int a0_)) ins → W p l e (kR 2 81) s m args below meth c s.heap [] 0 0 Q (F0 m pc ls [.int a0_]) := by
    intro a0_ hy; obtain rfl := sm1 hy
    exact RET
  have hown : s.vm.findClass RX8 = some m.cls := hown
  have hl : lv_has ls 12 [(0, .ref q_t), (1, .int v1), (2, .int v2), (3, .int v3)] := hl
  clear RET
  rw [fX8_waysIn] at hf
  refine lv_iconst (v := (0 : Int32)) hx hb dX8_waysIn_0 (by decide) ?_
  refine lv_istore (lv' := [(4, .int (0 : Int32)), (0, .ref q_t), (1, .int v1), (2, .int v2), (3, .int v3)]) hx hb dX8_waysIn_1 hl (by decide) rfl (fun ls hl => ?_)
  refine lv_iconst (v := (0 : Int32)) hx hb dX8_waysIn_3 (by decide) ?_
  refine lv_istore (lv' := [(5, .int (0 : Int32)), (4, .int (0 : Int32)), (0, .ref q_t), (1, .int v1), (2, .int v2), (3, .int v3)]) hx hb dX8_waysIn_4 hl (by decide) rfl (fun ls hl => ?_)
  obtain ⟨u7364, h7368, hf⟩ := bd1E hf
  have E7365 : ∀ (z14719 : Int32), some z14719 = some u7364 → ∀ ls : Array Slot, lv_has ls 12 [(4, .int z14719)] → W p l e (kR 2 81) s m args below meth c s.heap [] 0 0 Q (F0 m 234 ls []) := by
    intro z14719 hy; obtain rfl := sm1 hy
    intro ls hl
    refine lv_iload hx hb dX8_waysIn_234 (lv_at hl 0 rfl) ?_
    exact RT _ hf _ _ _ dX8_waysIn_236 (rkI _)
  have L7366 : ∀ (k : Nat) (w7362 : Int32) (w7363 : Int32), fX8_waysIn_6 fu t_there v3 v2 v1 k w7362 w7363 = some u7364 → ∀ ls : Array Slot, lv_has ls 12 [(0, .ref q_t), (1, .int v1), (2, .int v2), (3, .int v3), (4, .int w7362), (5, .int w7363)] → W p l e (kR 2 81) s m args below meth c s.heap [] 0 0 Q (F0 m 6 ls []) := by
    intro k; induction k with
    | zero => intro w7362 w7363 hf; exact nosome hf
    | succ k ih =>
      intro w7362 w7363 hf; rw [fX8_waysIn_6] at hf
      intro ls hl
      refine lv_iload hx hb dX8_waysIn_6 (lv_at hl 5 rfl) ?_
      refine lv_sipush (v := (4096 : Int32)) hx hb dX8_waysIn_8 (by decide) ?_
      refine lv_icmp_ge (tgt := 234) hx hb dX8_waysIn_11 (by decide) (fun c7371 => ?_) (fun c7371 => ?_)
      · have hf := ifp c7371 hf
        exact E7365 _ hf ls (lv_sub hl [4] rfl)
      · have hf := ifn c7371 hf
        refine lv_iconst (v := (1 : Int32)) hx hb dX8_waysIn_14 (by decide) ?_
        refine lv_istore (lv' := [(6, .int (1 : Int32)), (0, .ref q_t), (1, .int v1), (2, .int v2), (3, .int v3), (4, .int w7362), (5, .int w7363)]) hx hb dX8_waysIn_15 hl (by decide) rfl (fun ls hl => ?_)
        refine lv_iconst (v := (0 : Int32)) hx hb dX8_waysIn_17 (by decide) ?_
        refine lv_istore (lv' := [(7, .int (0 : Int32)), (6, .int (1 : Int32)), (0, .ref q_t), (1, .int v1), (2, .int v2), (3, .int v3), (4, .int w7362), (5, .int w7363)]) hx hb dX8_waysIn_18 hl (by decide) rfl (fun ls hl => ?_)
        obtain ⟨u11046, h11050, hf⟩ := bd1E hf
        have E11047 : ∀ (z14710 : Int32), some z14710 = some u11046 → ∀ ls : Array Slot, lv_has ls 12 [(0, .ref q_t), (1, .int v1), (2, .int v2), (3, .int v3), (4, .int w7362), (5, .int w7363), (6, .int z14710)] → W p l e (kR 2 81) s m args below meth c s.heap [] 0 0 Q (F0 m 213 ls []) := by
          intro z14710 hy; obtain rfl := sm1 hy
          intro ls hl
          refine lv_iload hx hb dX8_waysIn_213 (lv_at hl 4 rfl) ?_
          refine lv_iload hx hb dX8_waysIn_215 (lv_at hl 6 rfl) ?_
          obtain ⟨j14712, h14718, hf⟩ := bd1E hf
          have E14716 : ∀ (z14713 : Int32), some z14713 = some j14712 → ∀ ls : Array Slot, lv_has ls 12 [(0, .ref q_t), (1, .int v1), (2, .int v2), (3, .int v3), (5, .int w7363)] → W p l e (kR 2 81) s m args below meth c s.heap [] 0 0 Q (F0 m 225 ls [.int z14713, .int w7362]) := by
            intro z14713 hy; obtain rfl := sm1 hy
            intro ls hl
            refine lv_iadd hx hb dX8_waysIn_225 ?_
            refine lv_topi (fun y14714 ey14714 => ?_)
            have hf := nmeU ey14714 hf
            refine lv_istore (lv' := [(4, .int y14714), (0, .ref q_t), (1, .int v1), (2, .int v2), (3, .int v3), (5, .int w7363)]) hx hb dX8_waysIn_226 hl (by decide) rfl (fun ls hl => ?_)
            obtain ⟨y14715, ey14715⟩ : ∃ y : Int32, y = w7363 + (1 : Int32) := ⟨_, rfl⟩
            have hf := nmeU ey14715 hf
            refine lv_iinc (v := y14715) (lv' := [(5, .int y14715), (4, .int y14714), (0, .ref q_t), (1, .int v1), (2, .int v2), (3, .int v3)]) hx hb dX8_waysIn_228 hl (k := 5) rfl (by rw [ey14715]; rfl) (by decide) rfl (fun ls hl => ?_)
            refine lv_goto (tgt := 6) hx hb dX8_waysIn_231 (by decide) ?_
            exact ih _ _ hf ls (lv_sub hl [2, 3, 4, 5, 1, 0] rfl)
          have hf := h14718
          refine lv_if_eq (tgt := 224) hx hb dX8_waysIn_217 (by decide) (fun c14717 => ?_) (fun c14717 => ?_)
          · have hf := ifp c14717 hf
            refine lv_iconst (v := (0 : Int32)) hx hb dX8_waysIn_224 (by decide) ?_
            exact E14716 _ hf ls (lv_sub hl [0, 1, 2, 3, 5] rfl)
          · have hf := ifn c14717 hf
            refine lv_iconst (v := (1 : Int32)) hx hb dX8_waysIn_220 (by decide) ?_
            refine lv_goto (tgt := 225) hx hb dX8_waysIn_221 (by decide) ?_
            exact E14716 _ hf ls (lv_sub hl [0, 1, 2, 3, 5] rfl)
        have L11048 : ∀ (k : Nat) (w11044 : Int32) (w11045 : Int32), fX8_waysIn_20 fu w7363 t_there v3 v2 v1 k w11044 w11045 = some u11046 → ∀ ls : Array Slot, lv_has ls 12 [(0, .ref q_t), (1, .int v1), (2, .int v2), (3, .int v3), (4, .int w7362), (5, .int w7363), (6, .int w11044), (7, .int w11045)] → W p l e (kR 2 81) s m args below meth c s.heap [] 0 0 Q (F0 m 20 ls []) := by
          intro k; induction k with
          | zero => intro w11044 w11045 hf; exact nosome hf
          | succ k ih =>
            intro w11044 w11045 hf; rw [fX8_waysIn_20] at hf
            intro ls hl
            refine lv_iload hx hb dX8_waysIn_20 (lv_at hl 7 rfl) ?_
            refine lv_bipush (v := (6 : Int32)) hx hb dX8_waysIn_22 (by decide) ?_
            refine lv_icmp_ge (tgt := 213) hx hb dX8_waysIn_24 (by decide) (fun c11053 => ?_) (fun c11053 => ?_)
            · have hf := ifp c11053 hf
              exact E11047 _ hf ls (lv_sub hl [0, 1, 2, 3, 4, 5, 6] rfl)
            · have hf := ifn c11053 hf
              refine lv_iload hx hb dX8_waysIn_27 (lv_at hl 5 rfl) ?_
              refine lv_iconst (v := (2 : Int32)) hx hb dX8_waysIn_29 (by decide) ?_
              refine lv_iload hx hb dX8_waysIn_30 (lv_at hl 7 rfl) ?_
              refine lv_imul hx hb dX8_waysIn_32 ?_
              refine lv_ishr hx hb dX8_waysIn_33 ?_
              refine lv_iconst (v := (3 : Int32)) hx hb dX8_waysIn_34 (by decide) ?_
              refine lv_iand hx hb dX8_waysIn_35 ?_
              refine lv_topi (fun y11054 ey11054 => ?_)
              have hf := nmeU ey11054 hf
              refine lv_istore (lv' := [(8, .int y11054), (0, .ref q_t), (1, .int v1), (2, .int v2), (3, .int v3), (4, .int w7362), (5, .int w7363), (6, .int w11044), (7, .int w11045)]) hx hb dX8_waysIn_36 hl (by decide) rfl (fun ls hl => ?_)
              refine lv_iload hx hb dX8_waysIn_38 (lv_at hl 7 rfl) ?_
              obtain ⟨j11088, h14709, hf⟩ := bd1E hf
              have E14675 : ∀ (z11089 : Int32), some z11089 = some j11088 → ∀ ls : Array Slot, lv_has ls 12 [(0, .ref q_t), (1, .int v1), (2, .int v2), (3, .int v3), (4, .int w7362), (5, .int w7363), (7, .int w11045), (8, .int y11054)] → W p l e (kR 2 81) s m args below meth c s.heap [] 0 0 Q (F0 m 74 ls [.int z11089]) := by
                intro z11089 hy; obtain rfl := sm1 hy
                intro ls hl
                refine lv_istore (lv' := [(6, .int z11089), (0, .ref q_t), (1, .int v1), (2, .int v2), (3, .int v3), (4, .int w7362), (5, .int w7363), (7, .int w11045), (8, .int y11054)]) hx hb dX8_waysIn_74 hl (by decide) rfl (fun ls hl => ?_)
                refine lv_iload hx hb dX8_waysIn_76 (lv_at hl 7 rfl) ?_
                refine lv_iconst (v := (1 : Int32)) hx hb dX8_waysIn_78 (by decide) ?_
                refine lv_iadd hx hb dX8_waysIn_79 ?_
                refine lv_topi (fun y11090 ey11090 => ?_)
                have hf := nmeU ey11090 hf
                refine lv_istore (lv' := [(9, .int y11090), (6, .int z11089), (0, .ref q_t), (1, .int v1), (2, .int v2), (3, .int v3), (4, .int w7362), (5, .int w7363), (7, .int w11045), (8, .int y11054)]) hx hb dX8_waysIn_80 hl (by decide) rfl (fun ls hl => ?_)
                obtain ⟨u12888, h12892, hf⟩ := bd1E hf
                have E12889 : ∀ (z14673 : Int32), some z14673 = some u12888 → ∀ ls : Array Slot, lv_has ls 12 [(0, .ref q_t), (1, .int v1), (2, .int v2), (3, .int v3), (4, .int w7362), (5, .int w7363), (6, .int z14673), (7, .int w11045)] → W p l e (kR 2 81) s m args below meth c s.heap [] 0 0 Q (F0 m 207 ls []) := by
                  intro z14673 hy; obtain rfl := sm1 hy
                  intro ls hl
                  obtain ⟨y14674, ey14674⟩ : ∃ y : Int32, y = w11045 + (1 : Int32) := ⟨_, rfl⟩
                  have hf := nmeU ey14674 hf
                  refine lv_iinc (v := y14674) (lv' := [(7, .int y14674), (0, .ref q_t), (1, .int v1), (2, .int v2), (3, .int v3), (4, .int w7362), (5, .int w7363), (6, .int z14673)]) hx hb dX8_waysIn_207 hl (k := 7) rfl (by rw [ey14674]; rfl) (by decide) rfl (fun ls hl => ?_)
                  refine lv_goto (tgt := 20) hx hb dX8_waysIn_210 (by decide) ?_
                  exact ih _ _ hf ls (lv_sub hl [1, 2, 3, 4, 5, 6, 7, 0] rfl)
                have L12890 : ∀ (k : Nat) (w12886 : Int32) (w12887 : Int32), fX8_waysIn_82 t_there w11045 y11054 w7363 v2 v1 k w12886 w12887 = some u12888 → ∀ ls : Array Slot, lv_has ls 12 [(0, .ref q_t), (1, .int v1), (2, .int v2), (3, .int v3), (4, .int w7362), (5, .int w7363), (6, .int w12886), (7, .int w11045), (8, .int y11054), (9, .int w12887)] → W p l e (kR 2 81) s m args below meth c s.heap [] 0 0 Q (F0 m 82 ls []) := by
                  intro k; induction k with
                  | zero => intro w12886 w12887 hf; exact nosome hf
                  | succ k ih =>
                    intro w12886 w12887 hf; rw [fX8_waysIn_82] at hf
                    intro ls hl
                    refine lv_iload hx hb dX8_waysIn_82 (lv_at hl 9 rfl) ?_
                    refine lv_bipush (v := (6 : Int32)) hx hb dX8_waysIn_84 (by decide) ?_
                    refine lv_icmp_ge (tgt := 207) hx hb dX8_waysIn_86 (by decide) (fun c12895 => ?_) (fun c12895 => ?_)
                    · have hf := ifp c12895 hf
                      exact E12889 _ hf ls (lv_sub hl [0, 1, 2, 3, 4, 5, 6, 7] rfl)
                    · have hf := ifn c12895 hf
                      refine lv_aload_n hx hb dX8_waysIn_89 rfl (lv_at hl 0 rfl) ?_
                      refine va_get (D := D) (ci := 8) (v := .int t_there) (C := RX8) (T := TX8) (N := 23) hx hb hts inX8 hown hK hP 0 rfl rfl 0 (by decide) (hts _ lfX8_57) (fun _ h9 => h9) rfl dX8_waysIn_90 ?_
                      refine lv_iload hx hb dX8_waysIn_93 (lv_at hl 7 rfl) ?_
                      obtain ⟨r12896, h12897, hf⟩ := bd1E hf
                      refine kO_stat hx hb hml hown hts hK hn hP (kX8_has l D G t_there w11045 h12897) csX8_65 ⟨Nat.le_of_ble_eq_true rfl, Nat.le_of_ble_eq_true rfl⟩ [] rfl rfl hl.1 rfl (Nat.le_of_ble_eq_true rfl) ⟨Nat.zero_le _, Nat.zero_le _⟩ dX8_waysIn_95 ?_
                      obtain ⟨j12907, h14672, hf⟩ := bd1E hf
                      have E14662 : ∀ (z12908 : Int32), some z12908 = some j12907 → ∀ ls : Array Slot, lv_has ls 12 [(0, .ref q_t), (1, .int v1), (2, .int v2), (3, .int v3), (4, .int w7362), (5, .int w7363), (6, .int w12886), (7, .int w11045), (8, .int y11054), (9, .int w12887)] → W p l e (kR 2 81) s m args below meth c s.heap [] 0 0 Q (F0 m 118 ls [.int z12908]) := by
                        intro z12908 hy; obtain rfl := sm1 hy
                        intro ls hl
                        refine lv_istore (lv' := [(10, .int z12908), (0, .ref q_t), (1, .int v1), (2, .int v2), (3, .int v3), (4, .int w7362), (5, .int w7363), (6, .int w12886), (7, .int w11045), (8, .int y11054), (9, .int w12887)]) hx hb dX8_waysIn_118 hl (by decide) rfl (fun ls hl => ?_)
                        refine lv_iload hx hb dX8_waysIn_120 (lv_at hl 9 rfl) ?_
                        refine lv_iload hx hb dX8_waysIn_122 (lv_at hl 6 rfl) ?_
                        refine lv_iconst (v := (2 : Int32)) hx hb dX8_waysIn_124 (by decide) ?_
                        refine lv_iload hx hb dX8_waysIn_125 (lv_at hl 10 rfl) ?_
                        refine lv_imul hx hb dX8_waysIn_127 ?_
                        refine lv_ishr hx hb dX8_waysIn_128 ?_
                        refine lv_iconst (v := (3 : Int32)) hx hb dX8_waysIn_129 (by decide) ?_
                        refine lv_iand hx hb dX8_waysIn_130 ?_
                        obtain ⟨j12910, h14661, hf⟩ := bd1E hf
                        have E14659 : ∀ (z12911 : Int32), some z12911 = some j12910 → ∀ ls : Array Slot, lv_has ls 12 [(0, .ref q_t), (1, .int v1), (2, .int v2), (3, .int v3), (4, .int w7362), (5, .int w7363), (6, .int w12886), (7, .int w11045), (8, .int y11054), (9, .int w12887), (10, .int z12908)] → W p l e (kR 2 81) s m args below meth c s.heap [] 0 0 Q (F0 m 139 ls [.int z12911]) := by
                          intro z12911 hy; obtain rfl := sm1 hy
                          intro ls hl
                          refine lv_istore (lv' := [(11, .int z12911), (0, .ref q_t), (1, .int v1), (2, .int v2), (3, .int v3), (4, .int w7362), (5, .int w7363), (6, .int w12886), (7, .int w11045), (8, .int y11054), (9, .int w12887), (10, .int z12908)]) hx hb dX8_waysIn_139 hl (by decide) rfl (fun ls hl => ?_)
                          refine lv_iload hx hb dX8_waysIn_141 (lv_at hl 7 rfl) ?_
                          obtain ⟨j13783, h14658, hf⟩ := bd1E hf
                          have E13786 : ∀ (z13784 : Int32), some z13784 = some j13783 → ∀ ls : Array Slot, lv_has ls 12 [(0, .ref q_t), (1, .int v1), (2, .int v2), (3, .int v3), (4, .int w7362), (5, .int w7363), (7, .int w11045), (8, .int y11054), (9, .int w12887)] → W p l e (kR 2 81) s m args below meth c s.heap [] 0 0 Q (F0 m 199 ls [.int z13784]) := by
                            intro z13784 hy; obtain rfl := sm1 hy
                            intro ls hl
                            refine lv_istore (lv' := [(6, .int z13784), (0, .ref q_t), (1, .int v1), (2, .int v2), (3, .int v3), (4, .int w7362), (5, .int w7363), (7, .int w11045), (8, .int y11054), (9, .int w12887)]) hx hb dX8_waysIn_199 hl (by decide) rfl (fun ls hl => ?_)
                            obtain ⟨y13785, ey13785⟩ : ∃ y : Int32, y = w12887 + (1 : Int32) := ⟨_, rfl⟩
                            have hf := nmeU ey13785 hf
                            refine lv_iinc (v := y13785) (lv' := [(9, .int y13785), (6, .int z13784), (0, .ref q_t), (1, .int v1), (2, .int v2), (3, .int v3), (4, .int w7362), (5, .int w7363), (7, .int w11045), (8, .int y11054)]) hx hb dX8_waysIn_201 hl (k := 9) rfl (by rw [ey13785]; rfl) (by decide) rfl (fun ls hl => ?_)
                            refine lv_goto (tgt := 82) hx hb dX8_waysIn_204 (by decide) ?_
                            exact ih _ _ hf ls (lv_sub hl [2, 3, 4, 5, 6, 7, 1, 8, 9, 0] rfl)
                          have hf := h14658
                          refine lv_if_eq (tgt := 198) hx hb dX8_waysIn_143 (by decide) (fun c13787 => ?_) (fun c13787 => ?_)
                          · have hf := ifp c13787 hf
                            refine lv_iconst (v := (0 : Int32)) hx hb dX8_waysIn_198 (by decide) ?_
                            exact E13786 _ hf ls (lv_sub hl [1, 2, 3, 4, 5, 6, 8, 9, 10] rfl)
                          · have hf := ifn c13787 hf
                            refine lv_iload hx hb dX8_waysIn_146 (lv_at hl 11 rfl) ?_
                            obtain ⟨j14221, h14657, hf⟩ := bd1E hf
                            have E14223 : ∀ (z14222 : Int32), some z14222 = some j14221 → ∀ ls : Array Slot, lv_has ls 12 [(0, .ref q_t), (1, .int v1), (2, .int v2), (3, .int v3), (4, .int w7362), (5, .int w7363), (7, .int w11045), (8, .int y11054), (9, .int w12887)] → W p l e (kR 2 81) s m args below meth c s.heap [] 0 0 Q (F0 m 199 ls [.int z14222]) := by
                              intro z14222 hy; obtain rfl := sm1 hy
                              intro ls hl
                              exact E13786 _ hf ls (lv_sub hl [0, 1, 2, 3, 4, 5, 6, 7, 8] rfl)
                            have hf := h14657
                            refine lv_if_eq (tgt := 170) hx hb dX8_waysIn_148 (by decide) (fun c14224 => ?_) (fun c14224 => ?_)
                            · have hf := ifp c14224 hf
                              refine lv_iload hx hb dX8_waysIn_170 (lv_at hl 11 rfl) ?_
                              obtain ⟨j14252, h14282, hf⟩ := bd1E hf
                              have E14254 : ∀ (z14253 : Int32), some z14253 = some j14252 → ∀ ls : Array Slot, lv_has ls 12 [(0, .ref q_t), (1, .int v1), (2, .int v2), (3, .int v3), (4, .int w7362), (5, .int w7363), (7, .int w11045), (8, .int y11054), (9, .int w12887)] → W p l e (kR 2 81) s m args below meth c s.heap [] 0 0 Q (F0 m 199 ls [.int z14253]) := by
                                intro z14253 hy; obtain rfl := sm1 hy
                                intro ls hl
                                exact E14223 _ hf ls (lv_sub hl [0, 1, 2, 3, 4, 5, 6, 7, 8] rfl)
                              have hf := h14282
                              refine lv_if_eq (tgt := 194) hx hb dX8_waysIn_172 (by decide) (fun c14255 => ?_) (fun c14255 => ?_)
                              · have hf := ifp c14255 hf
                                refine lv_iconst (v := (1 : Int32)) hx hb dX8_waysIn_194 (by decide) ?_
                                refine lv_goto (tgt := 199) hx hb dX8_waysIn_195 (by decide) ?_
                                exact E14254 _ hf ls (lv_sub hl [1, 2, 3, 4, 5, 6, 8, 9, 10] rfl)
                              · have hf := ifn c14255 hf
                                refine lv_iload hx hb dX8_waysIn_175 (lv_at hl 0 rfl) ?_
                                obtain ⟨j14267, h14281, hf⟩ := bd1E hf
                                have E14269 : ∀ (z14268 : Int32), some z14268 = some j14267 → ∀ ls : Array Slot, lv_has ls 12 [(0, .ref q_t), (1, .int v1), (2, .int v2), (3, .int v3), (4, .int w7362), (5, .int w7363), (7, .int w11045), (8, .int y11054), (9, .int w12887)] → W p l e (kR 2 81) s m args below meth c s.heap [] 0 0 Q (F0 m 199 ls [.int z14268]) := by
                                  intro z14268 hy; obtain rfl := sm1 hy
                                  intro ls hl
                                  exact E14254 _ hf ls (lv_sub hl [0, 1, 2, 3, 4, 5, 6, 7, 8] rfl)
                                have hf := h14281
                                refine lv_if_ne (tgt := 194) hx hb dX8_waysIn_177 (by decide) (fun c14270 => ?_) (fun c14270 => ?_)
                                · have hf := ifn c14270 hf
                                  refine lv_iconst (v := (1 : Int32)) hx hb dX8_waysIn_194 (by decide) ?_
                                  refine lv_goto (tgt := 199) hx hb dX8_waysIn_195 (by decide) ?_
                                  exact E14269 _ hf ls (lv_sub hl [1, 2, 3, 4, 5, 6, 8, 9, 10] rfl)
                                · have hf := ifp c14270 hf
                                  refine lv_iload_n hx hb dX8_waysIn_180 rfl (lv_at hl 3 rfl) ?_
                                  refine lv_iload hx hb dX8_waysIn_181 (lv_at hl 8 rfl) ?_
                                  refine lv_iload hx hb dX8_waysIn_183 (lv_at hl 10 rfl) ?_
                                  obtain ⟨r14271, h14272, hf⟩ := bd1E hf
                                  refine kO_stat hx hb hml hown hts hK hn hP (kX8_pairOf l D G w11045 w12887 h14272) csX8_137 ⟨Nat.le_of_ble_eq_true rfl, Nat.le_of_ble_eq_true rfl⟩ [] rfl rfl hl.1 rfl (Nat.le_of_ble_eq_true rfl) ⟨Nat.zero_le _, Nat.zero_le _⟩ dX8_waysIn_185 ?_
                                  obtain ⟨r14273, h14274, hf⟩ := bd1E hf
                                  refine kO_stat hx hb hml hown hts hK hn hP (kX8_has l D G v2 r14271 h14274) csX8_65 ⟨Nat.le_of_ble_eq_true rfl, Nat.le_of_ble_eq_true rfl⟩ [] rfl rfl hl.1 rfl (Nat.le_of_ble_eq_true rfl) ⟨Nat.zero_le _, Nat.zero_le _⟩ dX8_waysIn_188 ?_
                                  obtain ⟨j14276, h14280, hf⟩ := bd1E hf
                                  have E14278 : ∀ (z14277 : Int32), some z14277 = some j14276 → ∀ ls : Array Slot, lv_has ls 12 [(0, .ref q_t), (1, .int v1), (2, .int v2), (3, .int v3), (4, .int w7362), (5, .int w7363), (7, .int w11045), (8, .int y11054), (9, .int w12887)] → W p l e (kR 2 81) s m args below meth c s.heap [] 0 0 Q (F0 m 199 ls [.int z14277]) := by
                                    intro z14277 hy; obtain rfl := sm1 hy
                                    intro ls hl
                                    exact E14269 _ hf ls (lv_sub hl [0, 1, 2, 3, 4, 5, 6, 7, 8] rfl)
                                  have hf := h14280
                                  refine lv_if_ne (tgt := 198) hx hb dX8_waysIn_191 (by decide) (fun c14279 => ?_) (fun c14279 => ?_)
                                  · have hf := ifn c14279 hf
                                    refine lv_iconst (v := (0 : Int32)) hx hb dX8_waysIn_198 (by decide) ?_
                                    exact E14278 _ hf ls (lv_sub hl [1, 2, 3, 4, 5, 6, 8, 9, 10] rfl)
                                  · have hf := ifp c14279 hf
                                    refine lv_iconst (v := (1 : Int32)) hx hb dX8_waysIn_194 (by decide) ?_
                                    refine lv_goto (tgt := 199) hx hb dX8_waysIn_195 (by decide) ?_
                                    exact E14278 _ hf ls (lv_sub hl [1, 2, 3, 4, 5, 6, 8, 9, 10] rfl)
                            · have hf := ifn c14224 hf
                              refine lv_iload hx hb dX8_waysIn_151 (lv_at hl 0 rfl) ?_
                              obtain ⟨j14468, h14656, hf⟩ := bd1E hf
                              have E14470 : ∀ (z14469 : Int32), some z14469 = some j14468 → ∀ ls : Array Slot, lv_has ls 12 [(0, .ref q_t), (1, .int v1), (2, .int v2), (3, .int v3), (4, .int w7362), (5, .int w7363), (7, .int w11045), (8, .int y11054), (9, .int w12887)] → W p l e (kR 2 81) s m args below meth c s.heap [] 0 0 Q (F0 m 199 ls [.int z14469]) := by
                                intro z14469 hy; obtain rfl := sm1 hy
                                intro ls hl
                                exact E14223 _ hf ls (lv_sub hl [0, 1, 2, 3, 4, 5, 6, 7, 8] rfl)
                              have hf := h14656
                              refine lv_if_eq (tgt := 170) hx hb dX8_waysIn_153 (by decide) (fun c14471 => ?_) (fun c14471 => ?_)
                              · have hf := ifp c14471 hf
                                refine lv_iload hx hb dX8_waysIn_170 (lv_at hl 11 rfl) ?_
                                obtain ⟨j14499, h14529, hf⟩ := bd1E hf
                                have E14501 : ∀ (z14500 : Int32), some z14500 = some j14499 → ∀ ls : Array Slot, lv_has ls 12 [(0, .ref q_t), (1, .int v1), (2, .int v2), (3, .int v3), (4, .int w7362), (5, .int w7363), (7, .int w11045), (8, .int y11054), (9, .int w12887)] → W p l e (kR 2 81) s m args below meth c s.heap [] 0 0 Q (F0 m 199 ls [.int z14500]) := by
                                  intro z14500 hy; obtain rfl := sm1 hy
                                  intro ls hl
                                  exact E14470 _ hf ls (lv_sub hl [0, 1, 2, 3, 4, 5, 6, 7, 8] rfl)
                                have hf := h14529
                                refine lv_if_eq (tgt := 194) hx hb dX8_waysIn_172 (by decide) (fun c14502 => ?_) (fun c14502 => ?_)
                                · have hf := ifp c14502 hf
                                  refine lv_iconst (v := (1 : Int32)) hx hb dX8_waysIn_194 (by decide) ?_
                                  refine lv_goto (tgt := 199) hx hb dX8_waysIn_195 (by decide) ?_
                                  exact E14501 _ hf ls (lv_sub hl [1, 2, 3, 4, 5, 6, 8, 9, 10] rfl)
                                · have hf := ifn c14502 hf
                                  refine lv_iload hx hb dX8_waysIn_175 (lv_at hl 0 rfl) ?_
                                  obtain ⟨j14514, h14528, hf⟩ := bd1E hf
                                  have E14516 : ∀ (z14515 : Int32), some z14515 = some j14514 → ∀ ls : Array Slot, lv_has ls 12 [(0, .ref q_t), (1, .int v1), (2, .int v2), (3, .int v3), (4, .int w7362), (5, .int w7363), (7, .int w11045), (8, .int y11054), (9, .int w12887)] → W p l e (kR 2 81) s m args below meth c s.heap [] 0 0 Q (F0 m 199 ls [.int z14515]) := by
                                    intro z14515 hy; obtain rfl := sm1 hy
                                    intro ls hl
                                    exact E14501 _ hf ls (lv_sub hl [0, 1, 2, 3, 4, 5, 6, 7, 8] rfl)
                                  have hf := h14528
                                  refine lv_if_ne (tgt := 194) hx hb dX8_waysIn_177 (by decide) (fun c14517 => ?_) (fun c14517 => ?_)
                                  · have hf := ifn c14517 hf
                                    refine lv_iconst (v := (1 : Int32)) hx hb dX8_waysIn_194 (by decide) ?_
                                    refine lv_goto (tgt := 199) hx hb dX8_waysIn_195 (by decide) ?_
                                    exact E14516 _ hf ls (lv_sub hl [1, 2, 3, 4, 5, 6, 8, 9, 10] rfl)
                                  · have hf := ifp c14517 hf
                                    refine lv_iload_n hx hb dX8_waysIn_180 rfl (lv_at hl 3 rfl) ?_
                                    refine lv_iload hx hb dX8_waysIn_181 (lv_at hl 8 rfl) ?_
                                    refine lv_iload hx hb dX8_waysIn_183 (lv_at hl 10 rfl) ?_
                                    obtain ⟨r14518, h14519, hf⟩ := bd1E hf
                                    refine kO_stat hx hb hml hown hts hK hn hP (kX8_pairOf l D G w11045 w12887 h14519) csX8_137 ⟨Nat.le_of_ble_eq_true rfl, Nat.le_of_ble_eq_true rfl⟩ [] rfl rfl hl.1 rfl (Nat.le_of_ble_eq_true rfl) ⟨Nat.zero_le _, Nat.zero_le _⟩ dX8_waysIn_185 ?_
                                    obtain ⟨r14520, h14521, hf⟩ := bd1E hf
                                    refine kO_stat hx hb hml hown hts hK hn hP (kX8_has l D G v2 r14518 h14521) csX8_65 ⟨Nat.le_of_ble_eq_true rfl, Nat.le_of_ble_eq_true rfl⟩ [] rfl rfl hl.1 rfl (Nat.le_of_ble_eq_true rfl) ⟨Nat.zero_le _, Nat.zero_le _⟩ dX8_waysIn_188 ?_
                                    obtain ⟨j14523, h14527, hf⟩ := bd1E hf
                                    have E14525 : ∀ (z14524 : Int32), some z14524 = some j14523 → ∀ ls : Array Slot, lv_has ls 12 [(0, .ref q_t), (1, .int v1), (2, .int v2), (3, .int v3), (4, .int w7362), (5, .int w7363), (7, .int w11045), (8, .int y11054), (9, .int w12887)] → W p l e (kR 2 81) s m args below meth c s.heap [] 0 0 Q (F0 m 199 ls [.int z14524]) := by
                                      intro z14524 hy; obtain rfl := sm1 hy
                                      intro ls hl
                                      exact E14516 _ hf ls (lv_sub hl [0, 1, 2, 3, 4, 5, 6, 7, 8] rfl)
                                    have hf := h14527
                                    refine lv_if_ne (tgt := 198) hx hb dX8_waysIn_191 (by decide) (fun c14526 => ?_) (fun c14526 => ?_)
                                    · have hf := ifn c14526 hf
                                      refine lv_iconst (v := (0 : Int32)) hx hb dX8_waysIn_198 (by decide) ?_
                                      exact E14525 _ hf ls (lv_sub hl [1, 2, 3, 4, 5, 6, 8, 9, 10] rfl)
                                    · have hf := ifp c14526 hf
                                      refine lv_iconst (v := (1 : Int32)) hx hb dX8_waysIn_194 (by decide) ?_
                                      refine lv_goto (tgt := 199) hx hb dX8_waysIn_195 (by decide) ?_
                                      exact E14525 _ hf ls (lv_sub hl [1, 2, 3, 4, 5, 6, 8, 9, 10] rfl)
                              · have hf := ifn c14471 hf
                                refine lv_iload_n hx hb dX8_waysIn_156 rfl (lv_at hl 2 rfl) ?_
                                refine lv_iload hx hb dX8_waysIn_157 (lv_at hl 8 rfl) ?_
                                refine lv_iload hx hb dX8_waysIn_159 (lv_at hl 10 rfl) ?_
                                obtain ⟨r14530, h14531, hf⟩ := bd1E hf
                                refine kO_stat hx hb hml hown hts hK hn hP (kX8_pairOf l D G w11045 w12887 h14531) csX8_137 ⟨Nat.le_of_ble_eq_true rfl, Nat.le_of_ble_eq_true rfl⟩ [] rfl rfl hl.1 rfl (Nat.le_of_ble_eq_true rfl) ⟨Nat.zero_le _, Nat.zero_le _⟩ dX8_waysIn_161 ?_
                                obtain ⟨r14532, h14533, hf⟩ := bd1E hf
                                refine kO_stat hx hb hml hown hts hK hn hP (kX8_has l D G v1 r14530 h14533) csX8_65 ⟨Nat.le_of_ble_eq_true rfl, Nat.le_of_ble_eq_true rfl⟩ [] rfl rfl hl.1 rfl (Nat.le_of_ble_eq_true rfl) ⟨Nat.zero_le _, Nat.zero_le _⟩ dX8_waysIn_164 ?_
                                obtain ⟨j14593, h14655, hf⟩ := bd1E hf
                                have E14595 : ∀ (z14594 : Int32), some z14594 = some j14593 → ∀ ls : Array Slot, lv_has ls 12 [(0, .ref q_t), (1, .int v1), (2, .int v2), (3, .int v3), (4, .int w7362), (5, .int w7363), (7, .int w11045), (8, .int y11054), (9, .int w12887)] → W p l e (kR 2 81) s m args below meth c s.heap [] 0 0 Q (F0 m 199 ls [.int z14594]) := by
                                  intro z14594 hy; obtain rfl := sm1 hy
                                  intro ls hl
                                  exact E14470 _ hf ls (lv_sub hl [0, 1, 2, 3, 4, 5, 6, 7, 8] rfl)
                                have hf := h14655
                                refine lv_if_ne (tgt := 198) hx hb dX8_waysIn_167 (by decide) (fun c14596 => ?_) (fun c14596 => ?_)
                                · have hf := ifn c14596 hf
                                  refine lv_iconst (v := (0 : Int32)) hx hb dX8_waysIn_198 (by decide) ?_
                                  exact E14595 _ hf ls (lv_sub hl [1, 2, 3, 4, 5, 6, 8, 9, 10] rfl)
                                · have hf := ifp c14596 hf
                                  refine lv_iload hx hb dX8_waysIn_170 (lv_at hl 11 rfl) ?_
                                  obtain ⟨j14624, h14654, hf⟩ := bd1E hf
                                  have E14626 : ∀ (z14625 : Int32), some z14625 = some j14624 → ∀ ls : Array Slot, lv_has ls 12 [(0, .ref q_t), (1, .int v1), (2, .int v2), (3, .int v3), (4, .int w7362), (5, .int w7363), (7, .int w11045), (8, .int y11054), (9, .int w12887)] → W p l e (kR 2 81) s m args below meth c s.heap [] 0 0 Q (F0 m 199 ls [.int z14625]) := by
                                    intro z14625 hy; obtain rfl := sm1 hy
                                    intro ls hl
                                    exact E14595 _ hf ls (lv_sub hl [0, 1, 2, 3, 4, 5, 6, 7, 8] rfl)
                                  have hf := h14654
                                  refine lv_if_eq (tgt := 194) hx hb dX8_waysIn_172 (by decide) (fun c14627 => ?_) (fun c14627 => ?_)
                                  · have hf := ifp c14627 hf
                                    refine lv_iconst (v := (1 : Int32)) hx hb dX8_waysIn_194 (by decide) ?_
                                    refine lv_goto (tgt := 199) hx hb dX8_waysIn_195 (by decide) ?_
                                    exact E14626 _ hf ls (lv_sub hl [1, 2, 3, 4, 5, 6, 8, 9, 10] rfl)
                                  · have hf := ifn c14627 hf
                                    refine lv_iload hx hb dX8_waysIn_175 (lv_at hl 0 rfl) ?_
                                    obtain ⟨j14639, h14653, hf⟩ := bd1E hf
                                    have E14641 : ∀ (z14640 : Int32), some z14640 = some j14639 → ∀ ls : Array Slot, lv_has ls 12 [(0, .ref q_t), (1, .int v1), (2, .int v2), (3, .int v3), (4, .int w7362), (5, .int w7363), (7, .int w11045), (8, .int y11054), (9, .int w12887)] → W p l e (kR 2 81) s m args below meth c s.heap [] 0 0 Q (F0 m 199 ls [.int z14640]) := by
                                      intro z14640 hy; obtain rfl := sm1 hy
                                      intro ls hl
                                      exact E14626 _ hf ls (lv_sub hl [0, 1, 2, 3, 4, 5, 6, 7, 8] rfl)
                                    have hf := h14653
                                    refine lv_if_ne (tgt := 194) hx hb dX8_waysIn_177 (by decide) (fun c14642 => ?_) (fun c14642 => ?_)
                                    · have hf := ifn c14642 hf
                                      refine lv_iconst (v := (1 : Int32)) hx hb dX8_waysIn_194 (by decide) ?_
                                      refine lv_goto (tgt := 199) hx hb dX8_waysIn_195 (by decide) ?_
                                      exact E14641 _ hf ls (lv_sub hl [1, 2, 3, 4, 5, 6, 8, 9, 10] rfl)
                                    · have hf := ifp c14642 hf
                                      refine lv_iload_n hx hb dX8_waysIn_180 rfl (lv_at hl 3 rfl) ?_
                                      refine lv_iload hx hb dX8_waysIn_181 (lv_at hl 8 rfl) ?_
                                      refine lv_iload hx hb dX8_waysIn_183 (lv_at hl 10 rfl) ?_
                                      obtain ⟨r14643, h14644, hf⟩ := bd1E hf
                                      refine kO_stat hx hb hml hown hts hK hn hP (kX8_pairOf l D G w11045 w12887 h14644) csX8_137 ⟨Nat.le_of_ble_eq_true rfl, Nat.le_of_ble_eq_true rfl⟩ [] rfl rfl hl.1 rfl (Nat.le_of_ble_eq_true rfl) ⟨Nat.zero_le _, Nat.zero_le _⟩ dX8_waysIn_185 ?_
                                      obtain ⟨r14645, h14646, hf⟩ := bd1E hf
                                      refine kO_stat hx hb hml hown hts hK hn hP (kX8_has l D G v2 r14643 h14646) csX8_65 ⟨Nat.le_of_ble_eq_true rfl, Nat.le_of_ble_eq_true rfl⟩ [] rfl rfl hl.1 rfl (Nat.le_of_ble_eq_true rfl) ⟨Nat.zero_le _, Nat.zero_le _⟩ dX8_waysIn_188 ?_
                                      obtain ⟨j14648, h14652, hf⟩ := bd1E hf
                                      have E14650 : ∀ (z14649 : Int32), some z14649 = some j14648 → ∀ ls : Array Slot, lv_has ls 12 [(0, .ref q_t), (1, .int v1), (2, .int v2), (3, .int v3), (4, .int w7362), (5, .int w7363), (7, .int w11045), (8, .int y11054), (9, .int w12887)] → W p l e (kR 2 81) s m args below meth c s.heap [] 0 0 Q (F0 m 199 ls [.int z14649]) := by
                                        intro z14649 hy; obtain rfl := sm1 hy
                                        intro ls hl
                                        exact E14641 _ hf ls (lv_sub hl [0, 1, 2, 3, 4, 5, 6, 7, 8] rfl)
                                      have hf := h14652
                                      refine lv_if_ne (tgt := 198) hx hb dX8_waysIn_191 (by decide) (fun c14651 => ?_) (fun c14651 => ?_)
                                      · have hf := ifn c14651 hf
                                        refine lv_iconst (v := (0 : Int32)) hx hb dX8_waysIn_198 (by decide) ?_
                                        exact E14650 _ hf ls (lv_sub hl [1, 2, 3, 4, 5, 6, 8, 9, 10] rfl)
                                      · have hf := ifp c14651 hf
                                        refine lv_iconst (v := (1 : Int32)) hx hb dX8_waysIn_194 (by decide) ?_
                                        refine lv_goto (tgt := 199) hx hb dX8_waysIn_195 (by decide) ?_
                                        exact E14650 _ hf ls (lv_sub hl [1, 2, 3, 4, 5, 6, 8, 9, 10] rfl)
                        have hf := h14661
                        refine lv_icmp_ne (tgt := 138) hx hb dX8_waysIn_131 (by decide) (fun c14660 => ?_) (fun c14660 => ?_)
                        · have hf := ifn c14660 hf
                          refine lv_iconst (v := (0 : Int32)) hx hb dX8_waysIn_138 (by decide) ?_
                          exact E14659 _ hf ls (lv_sub hl [1, 2, 3, 4, 5, 6, 7, 8, 9, 10, 0] rfl)
                        · have hf := ifp c14660 hf
                          refine lv_iconst (v := (1 : Int32)) hx hb dX8_waysIn_134 (by decide) ?_
                          refine lv_goto (tgt := 139) hx hb dX8_waysIn_135 (by decide) ?_
                          exact E14659 _ hf ls (lv_sub hl [1, 2, 3, 4, 5, 6, 7, 8, 9, 10, 0] rfl)
                      have hf := h14672
                      refine lv_if_eq (tgt := 117) hx hb dX8_waysIn_98 (by decide) (fun c14663 => ?_) (fun c14663 => ?_)
                      · have hf := ifp c14663 hf
                        refine lv_iconst (v := (0 : Int32)) hx hb dX8_waysIn_117 (by decide) ?_
                        exact E14662 _ hf ls (lv_sub hl [0, 1, 2, 3, 4, 5, 6, 7, 8, 9] rfl)
                      · have hf := ifn c14663 hf
                        refine lv_aload_n hx hb dX8_waysIn_101 rfl (lv_at hl 0 rfl) ?_
                        refine va_get (D := D) (ci := 8) (v := .int t_there) (C := RX8) (T := TX8) (N := 23) hx hb hts inX8 hown hK hP 0 rfl rfl 0 (by decide) (hts _ lfX8_57) (fun _ h9 => h9) rfl dX8_waysIn_102 ?_
                        refine lv_iload hx hb dX8_waysIn_105 (lv_at hl 9 rfl) ?_
                        obtain ⟨r14664, h14665, hf⟩ := bd1E hf
                        refine kO_stat hx hb hml hown hts hK hn hP (kX8_has l D G t_there w12887 h14665) csX8_65 ⟨Nat.le_of_ble_eq_true rfl, Nat.le_of_ble_eq_true rfl⟩ [] rfl rfl hl.1 rfl (Nat.le_of_ble_eq_true rfl) ⟨Nat.zero_le _, Nat.zero_le _⟩ dX8_waysIn_107 ?_
                        obtain ⟨j14667, h14671, hf⟩ := bd1E hf
                        have E14669 : ∀ (z14668 : Int32), some z14668 = some j14667 → ∀ ls : Array Slot, lv_has ls 12 [(0, .ref q_t), (1, .int v1), (2, .int v2), (3, .int v3), (4, .int w7362), (5, .int w7363), (6, .int w12886), (7, .int w11045), (8, .int y11054), (9, .int w12887)] → W p l e (kR 2 81) s m args below meth c s.heap [] 0 0 Q (F0 m 118 ls [.int z14668]) := by
                          intro z14668 hy; obtain rfl := sm1 hy
                          intro ls hl
                          exact E14662 _ hf ls (lv_sub hl [0, 1, 2, 3, 4, 5, 6, 7, 8, 9] rfl)
                        have hf := h14671
                        refine lv_if_eq (tgt := 117) hx hb dX8_waysIn_110 (by decide) (fun c14670 => ?_) (fun c14670 => ?_)
                        · have hf := ifp c14670 hf
                          refine lv_iconst (v := (0 : Int32)) hx hb dX8_waysIn_117 (by decide) ?_
                          exact E14669 _ hf ls (lv_sub hl [0, 1, 2, 3, 4, 5, 6, 7, 8, 9] rfl)
                        · have hf := ifn c14670 hf
                          refine lv_iconst (v := (1 : Int32)) hx hb dX8_waysIn_113 (by decide) ?_
                          refine lv_goto (tgt := 118) hx hb dX8_waysIn_114 (by decide) ?_
                          exact E14669 _ hf ls (lv_sub hl [0, 1, 2, 3, 4, 5, 6, 7, 8, 9] rfl)
                exact L12890 fu z11089 y11090 h12892 ls (lv_sub hl [2, 3, 4, 5, 6, 7, 1, 8, 9, 0] rfl)
              have hf := h14709
              refine lv_if_eq (tgt := 73) hx hb dX8_waysIn_40 (by decide) (fun c14676 => ?_) (fun c14676 => ?_)
              · have hf := ifp c14676 hf
                refine lv_iconst (v := (0 : Int32)) hx hb dX8_waysIn_73 (by decide) ?_
                exact E14675 _ hf ls (lv_sub hl [1, 2, 3, 4, 5, 6, 8, 0] rfl)
              · have hf := ifn c14676 hf
                refine lv_aload_n hx hb dX8_waysIn_43 rfl (lv_at hl 1 rfl) ?_
                refine va_get (D := D) (ci := 8) (v := .int t_there) (C := RX8) (T := TX8) (N := 23) hx hb hts inX8 hown hK hP 0 rfl rfl 0 (by decide) (hts _ lfX8_57) (fun _ h9 => h9) rfl dX8_waysIn_44 ?_
                refine lv_iload hx hb dX8_waysIn_47 (lv_at hl 8 rfl) ?_
                obtain ⟨r14677, h14678, hf⟩ := bd1E hf
                refine kO_stat hx hb hml hown hts hK hn hP (kX8_has l D G t_there w11045 h14678) csX8_65 ⟨Nat.le_of_ble_eq_true rfl, Nat.le_of_ble_eq_true rfl⟩ [] rfl rfl hl.1 rfl (Nat.le_of_ble_eq_true rfl) ⟨Nat.zero_le _, Nat.zero_le _⟩ dX8_waysIn_49 ?_
                obtain ⟨j14692, h14708, hf⟩ := bd1E hf
                have E14694 : ∀ (z14693 : Int32), some z14693 = some j14692 → ∀ ls : Array Slot, lv_has ls 12 [(0, .ref q_t), (1, .int v1), (2, .int v2), (3, .int v3), (4, .int w7362), (5, .int w7363), (7, .int w11045), (8, .int y11054)] → W p l e (kR 2 81) s m args below meth c s.heap [] 0 0 Q (F0 m 74 ls [.int z14693]) := by
                  intro z14693 hy; obtain rfl := sm1 hy
                  intro ls hl
                  exact E14675 _ hf ls (lv_sub hl [0, 1, 2, 3, 4, 5, 6, 7] rfl)
                have hf := h14708
                refine lv_if_eq (tgt := 64) hx hb dX8_waysIn_52 (by decide) (fun c14695 => ?_) (fun c14695 => ?_)
                · have hf := ifp c14695 hf
                  refine lv_iload hx hb dX8_waysIn_64 (lv_at hl 0 rfl) ?_
                  obtain ⟨j14697, h14701, hf⟩ := bd1E hf
                  have E14699 : ∀ (z14698 : Int32), some z14698 = some j14697 → ∀ ls : Array Slot, lv_has ls 12 [(0, .ref q_t), (1, .int v1), (2, .int v2), (3, .int v3), (4, .int w7362), (5, .int w7363), (7, .int w11045), (8, .int y11054)] → W p l e (kR 2 81) s m args below meth c s.heap [] 0 0 Q (F0 m 74 ls [.int z14698]) := by
                    intro z14698 hy; obtain rfl := sm1 hy
                    intro ls hl
                    exact E14694 _ hf ls (lv_sub hl [0, 1, 2, 3, 4, 5, 6, 7] rfl)
                  have hf := h14701
                  refine lv_if_ne (tgt := 73) hx hb dX8_waysIn_66 (by decide) (fun c14700 => ?_) (fun c14700 => ?_)
                  · have hf := ifn c14700 hf
                    refine lv_iconst (v := (0 : Int32)) hx hb dX8_waysIn_73 (by decide) ?_
                    exact E14699 _ hf ls (lv_sub hl [1, 2, 3, 4, 5, 6, 8, 0] rfl)
                  · have hf := ifp c14700 hf
                    refine lv_iconst (v := (1 : Int32)) hx hb dX8_waysIn_69 (by decide) ?_
                    refine lv_goto (tgt := 74) hx hb dX8_waysIn_70 (by decide) ?_
                    exact E14699 _ hf ls (lv_sub hl [1, 2, 3, 4, 5, 6, 8, 0] rfl)
                · have hf := ifn c14695 hf
                  refine lv_iload hx hb dX8_waysIn_55 (lv_at hl 0 rfl) ?_
                  refine lv_iload_n hx hb dX8_waysIn_57 rfl (lv_at hl 4 rfl) ?_
                  obtain ⟨j14703, h14707, hf⟩ := bd1E hf
                  have E14705 : ∀ (z14704 : Int32), some z14704 = some j14703 → ∀ ls : Array Slot, lv_has ls 12 [(0, .ref q_t), (1, .int v1), (2, .int v2), (3, .int v3), (4, .int w7362), (5, .int w7363), (7, .int w11045), (8, .int y11054)] → W p l e (kR 2 81) s m args below meth c s.heap [] 0 0 Q (F0 m 74 ls [.int z14704]) := by
                    intro z14704 hy; obtain rfl := sm1 hy
                    intro ls hl
                    exact E14694 _ hf ls (lv_sub hl [0, 1, 2, 3, 4, 5, 6, 7] rfl)
                  have hf := h14707
                  refine lv_icmp_ge (tgt := 73) hx hb dX8_waysIn_58 (by decide) (fun c14706 => ?_) (fun c14706 => ?_)
                  · have hf := ifp c14706 hf
                    refine lv_iconst (v := (0 : Int32)) hx hb dX8_waysIn_73 (by decide) ?_
                    exact E14705 _ hf ls (lv_sub hl [1, 2, 3, 4, 5, 6, 8, 0] rfl)
                  · have hf := ifn c14706 hf
                    refine lv_goto (tgt := 69) hx hb dX8_waysIn_61 (by decide) ?_
                    refine lv_iconst (v := (1 : Int32)) hx hb dX8_waysIn_69 (by decide) ?_
                    refine lv_goto (tgt := 74) hx hb dX8_waysIn_70 (by decide) ?_
                    exact E14705 _ hf ls (lv_sub hl [1, 2, 3, 4, 5, 6, 8, 0] rfl)
        exact L11048 fu (1 : Int32) (0 : Int32) h11050 ls (lv_sub hl [2, 3, 4, 5, 6, 7, 1, 0] rfl)
  exact L7366 fu (0 : Int32) (0 : Int32) h7368 ls (lv_sub hl [2, 3, 4, 5, 1, 0] rfl)
set_option maxHeartbeats 4000000 in
set_option maxRecDepth 100000 in
theorem kX8_rooms (l : Launch) (D : va_G) (G : Nat → ClassId) (fu : Nat) (q_t q_t_book q_t_now q_t_does q_t_bad q_t_likes q_t_sight q_t_pad q_t_then q_t_ahead q_t_most q_t_worth q_t_damp q_t_next q_t_image q_t_isKept : Nat) (t_there : Int32) (t_sights : Int32) (t_signs : Int32) (t_worseAt : Int32) (t_worseWho : Int32) (t_hours : Int32) (t_reason : Int32) (t_acts : Int32) (v1 : Int32) (v2 : Int32) {r : Int32} (hf : fX8_rooms fu t_there v1 v2 = some r) : rO l D G yX8_rooms cX8_rooms 4 (some .int) 3 112 [.ref q_t, .int v1, .int v2] [(q_t, .inr (8, [.int t_there, .ref q_t_book, .ref q_t_now, .ref q_t_does, .ref q_t_bad, .ref q_t_likes, .int t_sights, .ref q_t_sight, .int t_signs, .ref q_t_pad, .ref q_t_then, .int t_worseAt, .int t_worseWho, .int t_hours, .ref q_t_ahead, .int t_reason, .int t_acts, .ref q_t_most, .ref q_t_worth, .ref q_t_damp, .ref q_t_next, .ref q_t_image, .ref q_t_isKept]))] (some (.int r)) := by
  refine rO_of (by decide) (Nat.le_of_ble_eq_true rfl) ?_
  intro p e s m args below meth c Q hx hb hml hown hts hK hn hP RET ls hl
  have RT : ∀ (a0_ : Int32), some a0_ = some r → ∀ (pc : Nat) (ls : Array Slot) (ins : Instr), decode cX8_rooms pc = .ok (ins, 1) → rk (some .int) (some (.int a0_)) ins → W p l e (kR 3 112) s m args below meth c s.heap [] 0 0 Q (F0 m pc ls [.int a0_]) := by
    intro a0_ hy; obtain rfl := sm1 hy
    exact RET
  have hown : s.vm.findClass RX8 = some m.cls := hown
  have hl : lv_has ls 4 [(0, .ref q_t), (1, .int v1), (2, .int v2)] := hl
  clear RET
  rw [fX8_rooms] at hf
  refine lv_iload_n hx hb dX8_rooms_0 rfl (lv_at hl 1 rfl) ?_
  obtain ⟨r1, h2, hf⟩ := bd1E hf
  refine kO_stat hx hb hml hown hts hK hn hP (kX8_isPairs l D G v1 h2) csX8_140 ⟨Nat.le_of_ble_eq_true rfl, Nat.le_of_ble_eq_true rfl⟩ [] rfl rfl hl.1 rfl (Nat.le_of_ble_eq_true rfl) ⟨Nat.zero_le _, Nat.zero_le _⟩ dX8_rooms_1 ?_
  refine lv_if_eq (tgt := 14) hx hb dX8_rooms_4 (by decide) (fun c3 => ?_) (fun c3 => ?_)
  · have hf := ifp c3 hf
    refine lv_bipush (v := (-2 : Int32)) hx hb dX8_rooms_14 (by decide) ?_
    exact RT _ hf _ _ _ dX8_rooms_16 (rkI _)
  · have hf := ifn c3 hf
    refine lv_iload_n hx hb dX8_rooms_7 rfl (lv_at hl 2 rfl) ?_
    obtain ⟨r4, h5, hf⟩ := bd1E hf
    refine kO_stat hx hb hml hown hts hK hn hP (kX8_isPairs l D G v2 h5) csX8_140 ⟨Nat.le_of_ble_eq_true rfl, Nat.le_of_ble_eq_true rfl⟩ [] rfl rfl hl.1 rfl (Nat.le_of_ble_eq_true rfl) ⟨Nat.zero_le _, Nat.zero_le _⟩ dX8_rooms_8 ?_
    refine lv_if_ne (tgt := 17) hx hb dX8_rooms_11 (by decide) (fun c6 => ?_) (fun c6 => ?_)
    · have hf := ifn c6 hf
      refine lv_iconst (v := (1 : Int32)) hx hb dX8_rooms_17 (by decide) ?_
      refine lv_istore_n (lv' := [(3, .int (1 : Int32)), (0, .ref q_t), (1, .int v1), (2, .int v2)]) hx hb dX8_rooms_18 rfl hl (by decide) rfl (fun ls hl => ?_)
      obtain ⟨z26, h27, hr28, hc29⟩ := br0E hf
      have E24 : some (Sum.inr ()) = some z26 → ∀ ls : Array Slot, lv_has ls 4 [] → W p l e (kR 3 112) s m args below meth c s.heap [] 0 0 Q (F0 m 42 ls []) := by
        intro  hy; have hf := hc29  hy
        intro ls hl
        refine lv_bipush (v := (-6 : Int32)) hx hb dX8_rooms_42 (by decide) ?_
        exact RT _ hf _ _ _ dX8_rooms_44 (rkI _)
      have L25 : ∀ (k : Nat) (w23 : Int32), fX8_rooms_19 fu t_there v1 v2 k w23 = some z26 → ∀ ls : Array Slot, lv_has ls 4 [(0, .ref q_t), (1, .int v1), (2, .int v2), (3, .int w23)] → W p l e (kR 3 112) s m args below meth c s.heap [] 0 0 Q (F0 m 19 ls []) := by
        intro k; induction k with
        | zero => intro w23 hf; exact nosome hf
        | succ k ih =>
          intro w23 hf; rw [fX8_rooms_19] at hf
          intro ls hl
          refine lv_iload_n hx hb dX8_rooms_19 rfl (lv_at hl 3 rfl) ?_
          refine lv_iconst (v := (5 : Int32)) hx hb dX8_rooms_20 (by decide) ?_
          refine lv_icmp_ge (tgt := 42) hx hb dX8_rooms_21 (by decide) (fun c30 => ?_) (fun c30 => ?_)
          · have hf := ifp c30 hf
            exact E24  hf ls (lv_sub hl [] rfl)
          · have hf := ifn c30 hf
            refine lv_aload_n hx hb dX8_rooms_24 rfl (lv_at hl 0 rfl) ?_
            refine lv_iload_n hx hb dX8_rooms_25 rfl (lv_at hl 1 rfl) ?_
            refine lv_iload_n hx hb dX8_rooms_26 rfl (lv_at hl 2 rfl) ?_
            refine lv_iload_n hx hb dX8_rooms_27 rfl (lv_at hl 3 rfl) ?_
            obtain ⟨r31, h32, hf⟩ := bd1E hf
            refine kO_virt hx hb hml hown hts hK hn hP (kX8_waysIn l D G fu q_t q_t_book q_t_now q_t_does q_t_bad q_t_likes q_t_sight q_t_pad q_t_then q_t_ahead q_t_most q_t_worth q_t_damp q_t_next q_t_image q_t_isKept t_there t_sights t_signs t_worseAt t_worseWho t_hours t_reason t_acts v1 v2 w23 h32) cvX8_143 ⟨Nat.le_of_ble_eq_true rfl, Nat.le_of_ble_eq_true rfl⟩ [0] rfl 0 rfl rfl rfl hl.1 rfl (Nat.le_of_ble_eq_true rfl) ⟨Nat.zero_le _, Nat.zero_le _⟩ dX8_rooms_28 ?_
            refine lv_if_le (tgt := 36) hx hb dX8_rooms_31 (by decide) (fun c33 => ?_) (fun c33 => ?_)
            · have hf := ifp c33 hf
              obtain ⟨y34, ey34⟩ : ∃ y : Int32, y = w23 + (1 : Int32) := ⟨_, rfl⟩
              have hf := nmeU ey34 hf
              refine lv_iinc (v := y34) (lv' := [(3, .int y34), (0, .ref q_t), (1, .int v1), (2, .int v2)]) hx hb dX8_rooms_36 hl (k := 3) rfl (by rw [ey34]; rfl) (by decide) rfl (fun ls hl => ?_)
              refine lv_goto (tgt := 19) hx hb dX8_rooms_39 (by decide) ?_
              exact ih _ hf ls (lv_sub hl [1, 2, 3, 0] rfl)
            · have hf := ifn c33 hf
              refine lv_iload_n hx hb dX8_rooms_34 rfl (lv_at hl 3 rfl) ?_
              have hf := hr28 _ hf
              exact RT _ hf _ _ _ dX8_rooms_35 (rkI _)
      exact L25 fu (1 : Int32) h27 ls (lv_sub hl [1, 2, 3, 0] rfl)
    · have hf := ifp c6 hf
      refine lv_bipush (v := (-2 : Int32)) hx hb dX8_rooms_14 (by decide) ?_
      exact RT _ hf _ _ _ dX8_rooms_16 (rkI _)
set_option maxHeartbeats 4000000 in
set_option maxRecDepth 100000 in
theorem kX8_say (l : Launch) (D : va_G) (G : Nat → ClassId) (q_t q_t_book q_t_now q_t_does q_t_bad q_t_likes q_t_sight q_t_pad q_t_then q_t_ahead q_t_most q_t_worth q_t_damp q_t_next q_t_image q_t_isKept : Nat) (t_there : Int32) (t_sights : Int32) (t_signs : Int32) (t_worseAt : Int32) (t_worseWho : Int32) (t_hours : Int32) (t_reason : Int32) (t_acts : Int32) (t_pad : Nat → Int32) (v1 : Int32) {r : Int32} {o_t_signs : Int32} {o_t_pad : Nat → Int32} (hf : fX8_say t_signs t_pad v1 = some (r, o_t_signs, o_t_pad)) : rW l D G yX8_say cX8_say 2 (some .int) 2 82 [.ref q_t, .int v1] [(q_t, .inr (8, [.int t_there, .ref q_t_book, .ref q_t_now, .ref q_t_does, .ref q_t_bad, .ref q_t_likes, .int t_sights, .ref q_t_sight, .int t_signs, .ref q_t_pad, .ref q_t_then, .int t_worseAt, .int t_worseWho, .int t_hours, .ref q_t_ahead, .int t_reason, .int t_acts, .ref q_t_most, .ref q_t_worth, .ref q_t_damp, .ref q_t_next, .ref q_t_image, .ref q_t_isKept])), (q_t_pad, .inl (G 0, 60, .inl t_pad))] [(q_t, .inr (8, [.int t_there, .ref q_t_book, .ref q_t_now, .ref q_t_does, .ref q_t_bad, .ref q_t_likes, .int t_sights, .ref q_t_sight, .int o_t_signs, .ref q_t_pad, .ref q_t_then, .int t_worseAt, .int t_worseWho, .int t_hours, .ref q_t_ahead, .int t_reason, .int t_acts, .ref q_t_most, .ref q_t_worth, .ref q_t_damp, .ref q_t_next, .ref q_t_image, .ref q_t_isKept])), (q_t_pad, .inl (G 0, 60, .inl o_t_pad))] (some (.int r)) := by
  refine rW_of (by decide) (Nat.le_of_ble_eq_true rfl) ?_
  intro p e s m args below meth c Q A hx hb hml hown hts hK hn hA RET H locs hP hD hS ls hl
  have RT : ∀ (a0_ : Int32) (a1_ : Int32) (a2_ : Nat → Int32), some (a0_, a1_, a2_) = some (r, o_t_signs, o_t_pad) → ∀ (pc : Nat) (ls : Array Slot) (ins : Instr) (H : Heap) (locs : List Loc), decode cX8_say pc = .ok (ins, 1) → rk (some .int) (some (.int a0_)) ins → va_P D vwCl [(q_t, .inr (8, [.int t_there, .ref q_t_book, .ref q_t_now, .ref q_t_does, .ref q_t_bad, .ref q_t_likes, .int t_sights, .ref q_t_sight, .int a1_, .ref q_t_pad, .ref q_t_then, .int t_worseAt, .int t_worseWho, .int t_hours, .ref q_t_ahead, .int t_reason, .int t_acts, .ref q_t_most, .ref q_t_worth, .ref q_t_damp, .ref q_t_next, .ref q_t_image, .ref q_t_isKept])), (q_t_pad, .inl (G 0, 60, .inl a2_))] H → va_D A [(q_t, .inr (8, [.int t_there, .ref q_t_book, .ref q_t_now, .ref q_t_does, .ref q_t_bad, .ref q_t_likes, .int t_sights, .ref q_t_sight, .int a1_, .ref q_t_pad, .ref q_t_then, .int t_worseAt, .int t_worseWho, .int t_hours, .ref q_t_ahead, .int t_reason, .int t_acts, .ref q_t_most, .ref q_t_worth, .ref q_t_damp, .ref q_t_next, .ref q_t_image, .ref q_t_isKept])), (q_t_pad, .inl (G 0, 60, .inl a2_))] → va_S A s.heap H locs → W p l e (kR 2 82) s m args below meth c H locs 0 0 Q (F0 m pc ls [.int a0_]) := by
    intro a0_ a1_ a2_ hy; obtain ⟨rfl, rfl, rfl⟩ := sm3 hy
    exact RET
  have hown : s.vm.findClass RX8 = some m.cls := hown
  have hl : lv_has ls 2 [(0, .ref q_t), (1, .int v1)] := hl
  clear RET
  rw [fX8_say] at hf
  refine lv_iload_n hx hb dX8_say_0 rfl (lv_at hl 1 rfl) ?_
  refine lv_bipush (v := (33 : Int32)) hx hb dX8_say_1 (by decide) ?_
  refine lv_bipush (v := (126 : Int32)) hx hb dX8_say_3 (by decide) ?_
  obtain ⟨r1, h2, hf⟩ := bd1E hf
  refine kO_stat hx hb hml hown hts hK hn hP (kX8_in l D G v1 (33 : Int32) (126 : Int32) h2) csX8_61 ⟨Nat.le_of_ble_eq_true rfl, Nat.le_of_ble_eq_true rfl⟩ [] rfl rfl hl.1 rfl (Nat.le_of_ble_eq_true rfl) ⟨Nat.zero_le _, Nat.zero_le _⟩ dX8_say_5 ?_
  refine lv_if_ne (tgt := 14) hx hb dX8_say_8 (by decide) (fun c3 => ?_) (fun c3 => ?_)
  · have hf := ifn c3 hf
    refine lv_aload_n hx hb dX8_say_14 rfl (lv_at hl 0 rfl) ?_
    refine va_get (D := D) (ci := 8) (v := .int t_signs) (C := RX8) (T := TX8) (N := 23) hx hb hts inX8 hown hK hP 0 rfl rfl 8 (by decide) (hts _ lfX8_80) (fun _ h9 => h9) rfl dX8_say_15 ?_
    refine lv_bipush (v := (60 : Int32)) hx hb dX8_say_18 (by decide) ?_
    refine lv_icmp_ne (tgt := 26) hx hb dX8_say_20 (by decide) (fun c4 => ?_) (fun c4 => ?_)
    · have hf := ifn c4 hf
      refine lv_aload_n hx hb dX8_say_26 rfl (lv_at hl 0 rfl) ?_
      refine va_get (D := D) (ci := 8) (v := .ref q_t_pad) (C := RX8) (T := TX8) (N := 23) hx hb hts inX8 hown hK hP 0 rfl rfl 9 (by decide) (hts _ lfX8_28) (fun _ h9 => h9) rfl dX8_say_27 ?_
      refine lv_aload_n hx hb dX8_say_30 rfl (lv_at hl 0 rfl) ?_
      refine va_get (D := D) (ci := 8) (v := .int t_signs) (C := RX8) (T := TX8) (N := 23) hx hb hts inX8 hown hK hP 0 rfl rfl 8 (by decide) (hts _ lfX8_80) (fun _ h9 => h9) rfl dX8_say_31 ?_
      refine lv_iload_n hx hb dX8_say_34 rfl (lv_at hl 1 rfl) ?_
      obtain ⟨g5, eg5, ig5, hf⟩ := stIE hf
      refine k_iast hx hb hK hP hD hS 1 0 rfl rfl ig5 eg5 dX8_say_35 (fun H locs hP hD hS => ?_)
      have hP : va_P D vwCl [(q_t, .inr (8, [.int t_there, .ref q_t_book, .ref q_t_now, .ref q_t_does, .ref q_t_bad, .ref q_t_likes, .int t_sights, .ref q_t_sight, .int t_signs, .ref q_t_pad, .ref q_t_then, .int t_worseAt, .int t_worseWho, .int t_hours, .ref q_t_ahead, .int t_reason, .int t_acts, .ref q_t_most, .ref q_t_worth, .ref q_t_damp, .ref q_t_next, .ref q_t_image, .ref q_t_isKept])), (q_t_pad, .inl (G 0, 60, .inl g5))] H := hP
      have hD : va_D A [(q_t, .inr (8, [.int t_there, .ref q_t_book, .ref q_t_now, .ref q_t_does, .ref q_t_bad, .ref q_t_likes, .int t_sights, .ref q_t_sight, .int t_signs, .ref q_t_pad, .ref q_t_then, .int t_worseAt, .int t_worseWho, .int t_hours, .ref q_t_ahead, .int t_reason, .int t_acts, .ref q_t_most, .ref q_t_worth, .ref q_t_damp, .ref q_t_next, .ref q_t_image, .ref q_t_isKept])), (q_t_pad, .inl (G 0, 60, .inl g5))] := hD
      refine lv_aload_n hx hb dX8_say_36 rfl (lv_at hl 0 rfl) ?_
      refine lv_dup hx hb dX8_say_37 rfl ?_
      refine va_get (D := D) (ci := 8) (v := .int t_signs) (C := RX8) (T := TX8) (N := 23) hx hb hts inX8 hown hK hP 0 rfl rfl 8 (by decide) (hts _ lfX8_80) (fun _ h9 => h9) rfl dX8_say_38 ?_
      refine lv_iconst (v := (1 : Int32)) hx hb dX8_say_41 (by decide) ?_
      refine lv_iadd hx hb dX8_say_42 ?_
      refine lv_topi (fun y6 ey6 => ?_)
      have hf := nmeU ey6 hf
      refine va_put (D := D) (ci := 8) (v := .int y6) (ty := .int) (C := RX8) (T := TX8) (N := 23) hx hb hts inX8 tyX8 tyX8_ok nmX8 hown hK hP hD hS 0 rfl rfl 8 (by decide) (hts _ lfX8_80) (fun _ h9 => h9) rfl (tyX8_ok 8 (by decide)) rfl rfl (Nat.le_of_ble_eq_true rfl) dX8_say_43 (fun H locs hP hD hS => ?_)
      have hP : va_P D vwCl [(q_t, .inr (8, [.int t_there, .ref q_t_book, .ref q_t_now, .ref q_t_does, .ref q_t_bad, .ref q_t_likes, .int t_sights, .ref q_t_sight, .int y6, .ref q_t_pad, .ref q_t_then, .int t_worseAt, .int t_worseWho, .int t_hours, .ref q_t_ahead, .int t_reason, .int t_acts, .ref q_t_most, .ref q_t_worth, .ref q_t_damp, .ref q_t_next, .ref q_t_image, .ref q_t_isKept])), (q_t_pad, .inl (G 0, 60, .inl g5))] H := hP
      have hD : va_D A [(q_t, .inr (8, [.int t_there, .ref q_t_book, .ref q_t_now, .ref q_t_does, .ref q_t_bad, .ref q_t_likes, .int t_sights, .ref q_t_sight, .int y6, .ref q_t_pad, .ref q_t_then, .int t_worseAt, .int t_worseWho, .int t_hours, .ref q_t_ahead, .int t_reason, .int t_acts, .ref q_t_most, .ref q_t_worth, .ref q_t_damp, .ref q_t_next, .ref q_t_image, .ref q_t_isKept])), (q_t_pad, .inl (G 0, 60, .inl g5))] := hD
      refine lv_aload_n hx hb dX8_say_46 rfl (lv_at hl 0 rfl) ?_
      refine va_get (D := D) (ci := 8) (v := .int y6) (C := RX8) (T := TX8) (N := 23) hx hb hts inX8 hown hK hP 0 rfl rfl 8 (by decide) (hts _ lfX8_80) (fun _ h9 => h9) rfl dX8_say_47 ?_
      exact RT _ _ _ hf _ _ _ H locs dX8_say_50 (rkI _) hP hD hS
    · have hf := ifp c4 hf
      refine lv_bipush (v := (-4 : Int32)) hx hb dX8_say_23 (by decide) ?_
      exact RT _ _ _ hf _ _ _ H locs dX8_say_25 (rkI _) hP hD hS
  · have hf := ifp c3 hf
    refine lv_bipush (v := (-2 : Int32)) hx hb dX8_say_11 (by decide) ?_
    exact RT _ _ _ hf _ _ _ H locs dX8_say_13 (rkI _) hP hD hS
set_option maxHeartbeats 4000000 in
set_option maxRecDepth 100000 in
theorem kX8_seats (l : Launch) (D : va_G) (G : Nat → ClassId) (fu : Nat) (q_t q_t_book q_t_now q_t_does q_t_bad q_t_likes q_t_sight q_t_pad q_t_then q_t_ahead q_t_most q_t_worth q_t_damp q_t_next q_t_image q_t_isKept : Nat) (t_there : Int32) (t_sights : Int32) (t_signs : Int32) (t_worseAt : Int32) (t_worseWho : Int32) (t_hours : Int32) (t_reason : Int32) (t_acts : Int32) (t_likes : Nat → Int32) (t_most : Nat → Int32) (v1 : Int32) {r : Int32} {o_t_most : Nat → Int32} (hf : fX8_seats fu t_there t_likes t_most v1 = some (r, o_t_most)) : rW l D G yX8_seats cX8_seats 7 (some .int) 3 106 [.ref q_t, .int v1] [(q_t, .inr (8, [.int t_there, .ref q_t_book, .ref q_t_now, .ref q_t_does, .ref q_t_bad, .ref q_t_likes, .int t_sights, .ref q_t_sight, .int t_signs, .ref q_t_pad, .ref q_t_then, .int t_worseAt, .int t_worseWho, .int t_hours, .ref q_t_ahead, .int t_reason, .int t_acts, .ref q_t_most, .ref q_t_worth, .ref q_t_damp, .ref q_t_next, .ref q_t_image, .ref q_t_isKept])), (q_t_likes, .inl (G 0, 6, .inl t_likes)), (q_t_most, .inl (G 0, 448, .inl t_most))] [(q_t, .inr (8, [.int t_there, .ref q_t_book, .ref q_t_now, .ref q_t_does, .ref q_t_bad, .ref q_t_likes, .int t_sights, .ref q_t_sight, .int t_signs, .ref q_t_pad, .ref q_t_then, .int t_worseAt, .int t_worseWho, .int t_hours, .ref q_t_ahead, .int t_reason, .int t_acts, .ref q_t_most, .ref q_t_worth, .ref q_t_damp, .ref q_t_next, .ref q_t_image, .ref q_t_isKept])), (q_t_likes, .inl (G 0, 6, .inl t_likes)), (q_t_most, .inl (G 0, 448, .inl o_t_most))] (some (.int r)) := by
  refine rW_of (by decide) (Nat.le_of_ble_eq_true rfl) ?_
  intro p e s m args below meth c Q A hx hb hml hown hts hK hn hA RET H locs hP hD hS ls hl
  have RT : ∀ (a0_ : Int32) (a1_ : Nat → Int32), some (a0_, a1_) = some (r, o_t_most) → ∀ (pc : Nat) (ls : Array Slot) (ins : Instr) (H : Heap) (locs : List Loc), decode cX8_seats pc = .ok (ins, 1) → rk (some .int) (some (.int a0_)) ins → va_P D vwCl [(q_t, .inr (8, [.int t_there, .ref q_t_book, .ref q_t_now, .ref q_t_does, .ref q_t_bad, .ref q_t_likes, .int t_sights, .ref q_t_sight, .int t_signs, .ref q_t_pad, .ref q_t_then, .int t_worseAt, .int t_worseWho, .int t_hours, .ref q_t_ahead, .int t_reason, .int t_acts, .ref q_t_most, .ref q_t_worth, .ref q_t_damp, .ref q_t_next, .ref q_t_image, .ref q_t_isKept])), (q_t_likes, .inl (G 0, 6, .inl t_likes)), (q_t_most, .inl (G 0, 448, .inl a1_))] H → va_D A [(q_t, .inr (8, [.int t_there, .ref q_t_book, .ref q_t_now, .ref q_t_does, .ref q_t_bad, .ref q_t_likes, .int t_sights, .ref q_t_sight, .int t_signs, .ref q_t_pad, .ref q_t_then, .int t_worseAt, .int t_worseWho, .int t_hours, .ref q_t_ahead, .int t_reason, .int t_acts, .ref q_t_most, .ref q_t_worth, .ref q_t_damp, .ref q_t_next, .ref q_t_image, .ref q_t_isKept])), (q_t_likes, .inl (G 0, 6, .inl t_likes)), (q_t_most, .inl (G 0, 448, .inl a1_))] → va_S A s.heap H locs → W p l e (kR 3 106) s m args below meth c H locs 0 0 Q (F0 m pc ls [.int a0_]) := by
    intro a0_ a1_ hy; obtain ⟨rfl, rfl⟩ := sm2 hy
    exact RET
  have hown : s.vm.findClass RX8 = some m.cls := hown
  have hl : lv_has ls 7 [(0, .ref q_t), (1, .int v1)] := hl
  clear RET
  rw [fX8_seats] at hf
  refine lv_iload_n hx hb dX8_seats_0 rfl (lv_at hl 1 rfl) ?_
  refine lv_iconst (v := (-1 : Int32)) hx hb dX8_seats_1 (by decide) ?_
  refine lv_iconst (v := (5 : Int32)) hx hb dX8_seats_2 (by decide) ?_
  obtain ⟨r1, h2, hf⟩ := bd1E hf
  refine kO_stat hx hb hml hown hts hK hn hP (kX8_in l D G v1 (-1 : Int32) (5 : Int32) h2) csX8_61 ⟨Nat.le_of_ble_eq_true rfl, Nat.le_of_ble_eq_true rfl⟩ [] rfl rfl hl.1 rfl (Nat.le_of_ble_eq_true rfl) ⟨Nat.zero_le _, Nat.zero_le _⟩ dX8_seats_3 ?_
  refine lv_if_ne (tgt := 11) hx hb dX8_seats_6 (by decide) (fun c3 => ?_) (fun c3 => ?_)
  · have hf := ifn c3 hf
    refine lv_aload_n hx hb dX8_seats_11 rfl (lv_at hl 0 rfl) ?_
    obtain ⟨o4, h5, hf⟩ := bd1E hf
    refine kW_virt0 hx hb hml hown hts hK hn hA hP hD hS (kX8_laySeats l D G fu q_t q_t_book q_t_now q_t_does q_t_bad q_t_likes q_t_sight q_t_pad q_t_then q_t_ahead q_t_most q_t_worth q_t_damp q_t_next q_t_image q_t_isKept t_there t_sights t_signs t_worseAt t_worseWho t_hours t_reason t_acts t_likes t_most h5) cvX8_147 ⟨Nat.le_of_ble_eq_true rfl, Nat.le_of_ble_eq_true rfl⟩ [0, 1, 2] rfl rfl [true, true, true] rfl (w3 := [(q_t, .inr (8, [.int t_there, .ref q_t_book, .ref q_t_now, .ref q_t_does, .ref q_t_bad, .ref q_t_likes, .int t_sights, .ref q_t_sight, .int t_signs, .ref q_t_pad, .ref q_t_then, .int t_worseAt, .int t_worseWho, .int t_hours, .ref q_t_ahead, .int t_reason, .int t_acts, .ref q_t_most, .ref q_t_worth, .ref q_t_damp, .ref q_t_next, .ref q_t_image, .ref q_t_isKept])), (q_t_likes, .inl (G 0, 6, .inl t_likes)), (q_t_most, .inl (G 0, 448, .inl o4))]) [0, 1, 2] rfl rfl 0 rfl rfl rfl hl.1 rfl (Nat.le_of_ble_eq_true rfl) ⟨Nat.zero_le _, Nat.zero_le _⟩ dX8_seats_12 (fun H locs hP hD hS => ?_)
    have hP : va_P D vwCl [(q_t, .inr (8, [.int t_there, .ref q_t_book, .ref q_t_now, .ref q_t_does, .ref q_t_bad, .ref q_t_likes, .int t_sights, .ref q_t_sight, .int t_signs, .ref q_t_pad, .ref q_t_then, .int t_worseAt, .int t_worseWho, .int t_hours, .ref q_t_ahead, .int t_reason, .int t_acts, .ref q_t_most, .ref q_t_worth, .ref q_t_damp, .ref q_t_next, .ref q_t_image, .ref q_t_isKept])), (q_t_likes, .inl (G 0, 6, .inl t_likes)), (q_t_most, .inl (G 0, 448, .inl o4))] H := hP
    have hD : va_D A [(q_t, .inr (8, [.int t_there, .ref q_t_book, .ref q_t_now, .ref q_t_does, .ref q_t_bad, .ref q_t_likes, .int t_sights, .ref q_t_sight, .int t_signs, .ref q_t_pad, .ref q_t_then, .int t_worseAt, .int t_worseWho, .int t_hours, .ref q_t_ahead, .int t_reason, .int t_acts, .ref q_t_most, .ref q_t_worth, .ref q_t_damp, .ref q_t_next, .ref q_t_image, .ref q_t_isKept])), (q_t_likes, .inl (G 0, 6, .inl t_likes)), (q_t_most, .inl (G 0, 448, .inl o4))] := hD
    refine lv_iconst (v := (0 : Int32)) hx hb dX8_seats_15 (by decide) ?_
    refine lv_istore_n (lv' := [(2, .int (0 : Int32)), (0, .ref q_t), (1, .int v1)]) hx hb dX8_seats_16 rfl hl (by decide) rfl (fun ls hl => ?_)
    refine lv_aload_n hx hb dX8_seats_17 rfl (lv_at hl 1 rfl) ?_
    refine va_get (D := D) (ci := 8) (v := .ref q_t_most) (C := RX8) (T := TX8) (N := 23) hx hb hts inX8 hown hK hP 0 rfl rfl 17 (by decide) (hts _ lfX8_37) (fun _ h9 => h9) rfl dX8_seats_18 ?_
    refine lv_iconst (v := (0 : Int32)) hx hb dX8_seats_21 (by decide) ?_
    obtain ⟨x6, ex6, ix6, hf⟩ := ldIE hf
    refine k_iald hx hb hK hP 2 0 rfl rfl ix6 ex6 dX8_seats_22 ?_
    refine lv_istore_n (lv' := [(3, .int x6), (2, .int (0 : Int32)), (0, .ref q_t), (1, .int v1)]) hx hb dX8_seats_23 rfl hl (by decide) rfl (fun ls hl => ?_)
    refine lv_iconst (v := (0 : Int32)) hx hb dX8_seats_24 (by decide) ?_
    refine lv_istore (lv' := [(4, .int (0 : Int32)), (3, .int x6), (2, .int (0 : Int32)), (0, .ref q_t), (1, .int v1)]) hx hb dX8_seats_25 hl (by decide) rfl (fun ls hl => ?_)
    obtain ⟨u188, h192, hf⟩ := bd1E hf
    have E189 : ∀ (z359 : Int32), some z359 = some u188 → ∀ (H : Heap) (locs : List Loc), va_P D vwCl [(q_t, .inr (8, [.int t_there, .ref q_t_book, .ref q_t_now, .ref q_t_does, .ref q_t_bad, .ref q_t_likes, .int t_sights, .ref q_t_sight, .int t_signs, .ref q_t_pad, .ref q_t_then, .int t_worseAt, .int t_worseWho, .int t_hours, .ref q_t_ahead, .int t_reason, .int t_acts, .ref q_t_most, .ref q_t_worth, .ref q_t_damp, .ref q_t_next, .ref q_t_image, .ref q_t_isKept])), (q_t_likes, .inl (G 0, 6, .inl t_likes)), (q_t_most, .inl (G 0, 448, .inl o4))] H → va_D A [(q_t, .inr (8, [.int t_there, .ref q_t_book, .ref q_t_now, .ref q_t_does, .ref q_t_bad, .ref q_t_likes, .int t_sights, .ref q_t_sight, .int t_signs, .ref q_t_pad, .ref q_t_then, .int t_worseAt, .int t_worseWho, .int t_hours, .ref q_t_ahead, .int t_reason, .int t_acts, .ref q_t_most, .ref q_t_worth, .ref q_t_damp, .ref q_t_next, .ref q_t_image, .ref q_t_isKept])), (q_t_likes, .inl (G 0, 6, .inl t_likes)), (q_t_most, .inl (G 0, 448, .inl o4))] → va_S A s.heap H locs → ∀ ls : Array Slot, lv_has ls 7 [(3, .int z359)] → W p l e (kR 3 106) s m args below meth c H locs 0 0 Q (F0 m 155 ls []) := by
      intro z359 hy; obtain rfl := sm1 hy
      intro H locs hP hD hS ls hl
      refine lv_iload_n hx hb dX8_seats_155 rfl (lv_at hl 0 rfl) ?_
      exact RT _ _ hf _ _ _ H locs dX8_seats_156 (rkI _) hP hD hS
    have L190 : ∀ (k : Nat) (w185 : Int32) (w186 : Int32) (w187 : Int32), fX8_seats_27 fu v1 t_likes t_there o4 k w185 w186 w187 = some u188 → ∀ (H : Heap) (locs : List Loc), va_P D vwCl [(q_t, .inr (8, [.int t_there, .ref q_t_book, .ref q_t_now, .ref q_t_does, .ref q_t_bad, .ref q_t_likes, .int t_sights, .ref q_t_sight, .int t_signs, .ref q_t_pad, .ref q_t_then, .int t_worseAt, .int t_worseWho, .int t_hours, .ref q_t_ahead, .int t_reason, .int t_acts, .ref q_t_most, .ref q_t_worth, .ref q_t_damp, .ref q_t_next, .ref q_t_image, .ref q_t_isKept])), (q_t_likes, .inl (G 0, 6, .inl t_likes)), (q_t_most, .inl (G 0, 448, .inl o4))] H → va_D A [(q_t, .inr (8, [.int t_there, .ref q_t_book, .ref q_t_now, .ref q_t_does, .ref q_t_bad, .ref q_t_likes, .int t_sights, .ref q_t_sight, .int t_signs, .ref q_t_pad, .ref q_t_then, .int t_worseAt, .int t_worseWho, .int t_hours, .ref q_t_ahead, .int t_reason, .int t_acts, .ref q_t_most, .ref q_t_worth, .ref q_t_damp, .ref q_t_next, .ref q_t_image, .ref q_t_isKept])), (q_t_likes, .inl (G 0, 6, .inl t_likes)), (q_t_most, .inl (G 0, 448, .inl o4))] → va_S A s.heap H locs → ∀ ls : Array Slot, lv_has ls 7 [(0, .ref q_t), (1, .int v1), (2, .int w185), (3, .int w186), (4, .int w187)] → W p l e (kR 3 106) s m args below meth c H locs 0 0 Q (F0 m 27 ls []) := by
      intro k; induction k with
      | zero => intro w185 w186 w187 hf; exact nosome hf
      | succ k ih =>
        intro w185 w186 w187 hf; rw [fX8_seats_27] at hf
        intro H locs hP hD hS ls hl
        refine lv_iload hx hb dX8_seats_27 (lv_at hl 4 rfl) ?_
        refine lv_iload_n hx hb dX8_seats_29 rfl (lv_at hl 1 rfl) ?_
        refine lv_icmp_gt (tgt := 155) hx hb dX8_seats_30 (by decide) (fun c195 => ?_) (fun c195 => ?_)
        · have hf := ifp c195 hf
          exact E189 _ hf H locs hP hD hS ls (lv_sub hl [3] rfl)
        · have hf := ifn c195 hf
          refine lv_bipush (v := (-6 : Int32)) hx hb dX8_seats_33 (by decide) ?_
          refine lv_istore_n (lv' := [(3, .int (-6 : Int32)), (0, .ref q_t), (1, .int v1), (2, .int w185), (4, .int w187)]) hx hb dX8_seats_35 rfl hl (by decide) rfl (fun ls hl => ?_)
          refine lv_iconst (v := (5 : Int32)) hx hb dX8_seats_36 (by decide) ?_
          refine lv_istore (lv' := [(5, .int (5 : Int32)), (3, .int (-6 : Int32)), (0, .ref q_t), (1, .int v1), (2, .int w185), (4, .int w187)]) hx hb dX8_seats_37 hl (by decide) rfl (fun ls hl => ?_)
          obtain ⟨u278, h282, hf⟩ := bd1E hf
          have E279 : ∀ (z350 : Int32), some z350 = some u278 → ∀ (H : Heap) (locs : List Loc), va_P D vwCl [(q_t, .inr (8, [.int t_there, .ref q_t_book, .ref q_t_now, .ref q_t_does, .ref q_t_bad, .ref q_t_likes, .int t_sights, .ref q_t_sight, .int t_signs, .ref q_t_pad, .ref q_t_then, .int t_worseAt, .int t_worseWho, .int t_hours, .ref q_t_ahead, .int t_reason, .int t_acts, .ref q_t_most, .ref q_t_worth, .ref q_t_damp, .ref q_t_next, .ref q_t_image, .ref q_t_isKept])), (q_t_likes, .inl (G 0, 6, .inl t_likes)), (q_t_most, .inl (G 0, 448, .inl o4))] H → va_D A [(q_t, .inr (8, [.int t_there, .ref q_t_book, .ref q_t_now, .ref q_t_does, .ref q_t_bad, .ref q_t_likes, .int t_sights, .ref q_t_sight, .int t_signs, .ref q_t_pad, .ref q_t_then, .int t_worseAt, .int t_worseWho, .int t_hours, .ref q_t_ahead, .int t_reason, .int t_acts, .ref q_t_most, .ref q_t_worth, .ref q_t_damp, .ref q_t_next, .ref q_t_image, .ref q_t_isKept])), (q_t_likes, .inl (G 0, 6, .inl t_likes)), (q_t_most, .inl (G 0, 448, .inl o4))] → va_S A s.heap H locs → ∀ ls : Array Slot, lv_has ls 7 [(0, .ref q_t), (1, .int v1), (2, .int w185), (3, .int z350), (4, .int w187)] → W p l e (kR 3 106) s m args below meth c H locs 0 0 Q (F0 m 135 ls []) := by
            intro z350 hy; obtain rfl := sm1 hy
            intro H locs hP hD hS ls hl
            refine lv_iload_n hx hb dX8_seats_135 rfl (lv_at hl 2 rfl) ?_
            refine lv_iload_n hx hb dX8_seats_136 rfl (lv_at hl 3 rfl) ?_
            obtain ⟨j352, h358, hf⟩ := bd1E hf
            have E356 : ∀ (z353 : Int32), some z353 = some j352 → ∀ (H : Heap) (locs : List Loc), va_P D vwCl [(q_t, .inr (8, [.int t_there, .ref q_t_book, .ref q_t_now, .ref q_t_does, .ref q_t_bad, .ref q_t_likes, .int t_sights, .ref q_t_sight, .int t_signs, .ref q_t_pad, .ref q_t_then, .int t_worseAt, .int t_worseWho, .int t_hours, .ref q_t_ahead, .int t_reason, .int t_acts, .ref q_t_most, .ref q_t_worth, .ref q_t_damp, .ref q_t_next, .ref q_t_image, .ref q_t_isKept])), (q_t_likes, .inl (G 0, 6, .inl t_likes)), (q_t_most, .inl (G 0, 448, .inl o4))] H → va_D A [(q_t, .inr (8, [.int t_there, .ref q_t_book, .ref q_t_now, .ref q_t_does, .ref q_t_bad, .ref q_t_likes, .int t_sights, .ref q_t_sight, .int t_signs, .ref q_t_pad, .ref q_t_then, .int t_worseAt, .int t_worseWho, .int t_hours, .ref q_t_ahead, .int t_reason, .int t_acts, .ref q_t_most, .ref q_t_worth, .ref q_t_damp, .ref q_t_next, .ref q_t_image, .ref q_t_isKept])), (q_t_likes, .inl (G 0, 6, .inl t_likes)), (q_t_most, .inl (G 0, 448, .inl o4))] → va_S A s.heap H locs → ∀ ls : Array Slot, lv_has ls 7 [(0, .ref q_t), (1, .int v1), (3, .int z350), (4, .int w187)] → W p l e (kR 3 106) s m args below meth c H locs 0 0 Q (F0 m 147 ls [.int z353, .int w185]) := by
              intro z353 hy; obtain rfl := sm1 hy
              intro H locs hP hD hS ls hl
              refine lv_ior hx hb dX8_seats_147 ?_
              refine lv_topi (fun y354 ey354 => ?_)
              have hf := nmeU ey354 hf
              refine lv_istore_n (lv' := [(2, .int y354), (0, .ref q_t), (1, .int v1), (3, .int z350), (4, .int w187)]) hx hb dX8_seats_148 rfl hl (by decide) rfl (fun ls hl => ?_)
              obtain ⟨y355, ey355⟩ : ∃ y : Int32, y = w187 + (1 : Int32) := ⟨_, rfl⟩
              have hf := nmeU ey355 hf
              refine lv_iinc (v := y355) (lv' := [(4, .int y355), (2, .int y354), (0, .ref q_t), (1, .int v1), (3, .int z350)]) hx hb dX8_seats_149 hl (k := 4) rfl (by rw [ey355]; rfl) (by decide) rfl (fun ls hl => ?_)
              refine lv_goto (tgt := 27) hx hb dX8_seats_152 (by decide) ?_
              exact ih _ _ _ hf H locs hP hD hS ls (lv_sub hl [2, 3, 1, 4, 0] rfl)
            have hf := h358
            refine lv_if_ge (tgt := 144) hx hb dX8_seats_137 (by decide) (fun c357 => ?_) (fun c357 => ?_)
            · have hf := ifp c357 hf
              refine lv_iconst (v := (1 : Int32)) hx hb dX8_seats_144 (by decide) ?_
              refine lv_iload_n hx hb dX8_seats_145 rfl (lv_at hl 3 rfl) ?_
              refine lv_ishl hx hb dX8_seats_146 ?_
              exact E356 _ hf H locs hP hD hS ls (lv_sub hl [0, 1, 3, 4] rfl)
            · have hf := ifn c357 hf
              refine lv_iconst (v := (0 : Int32)) hx hb dX8_seats_140 (by decide) ?_
              refine lv_goto (tgt := 147) hx hb dX8_seats_141 (by decide) ?_
              exact E356 _ hf H locs hP hD hS ls (lv_sub hl [0, 1, 3, 4] rfl)
          have L280 : ∀ (k : Nat) (w276 : Int32) (w277 : Int32), fX8_seats_39 t_likes w187 t_there w185 o4 k w276 w277 = some u278 → ∀ (H : Heap) (locs : List Loc), va_P D vwCl [(q_t, .inr (8, [.int t_there, .ref q_t_book, .ref q_t_now, .ref q_t_does, .ref q_t_bad, .ref q_t_likes, .int t_sights, .ref q_t_sight, .int t_signs, .ref q_t_pad, .ref q_t_then, .int t_worseAt, .int t_worseWho, .int t_hours, .ref q_t_ahead, .int t_reason, .int t_acts, .ref q_t_most, .ref q_t_worth, .ref q_t_damp, .ref q_t_next, .ref q_t_image, .ref q_t_isKept])), (q_t_likes, .inl (G 0, 6, .inl t_likes)), (q_t_most, .inl (G 0, 448, .inl o4))] H → va_D A [(q_t, .inr (8, [.int t_there, .ref q_t_book, .ref q_t_now, .ref q_t_does, .ref q_t_bad, .ref q_t_likes, .int t_sights, .ref q_t_sight, .int t_signs, .ref q_t_pad, .ref q_t_then, .int t_worseAt, .int t_worseWho, .int t_hours, .ref q_t_ahead, .int t_reason, .int t_acts, .ref q_t_most, .ref q_t_worth, .ref q_t_damp, .ref q_t_next, .ref q_t_image, .ref q_t_isKept])), (q_t_likes, .inl (G 0, 6, .inl t_likes)), (q_t_most, .inl (G 0, 448, .inl o4))] → va_S A s.heap H locs → ∀ ls : Array Slot, lv_has ls 7 [(0, .ref q_t), (1, .int v1), (2, .int w185), (3, .int w276), (4, .int w187), (5, .int w277)] → W p l e (kR 3 106) s m args below meth c H locs 0 0 Q (F0 m 39 ls []) := by
            intro k; induction k with
            | zero => intro w276 w277 hf; exact nosome hf
            | succ k ih =>
              intro w276 w277 hf; rw [fX8_seats_39] at hf
              intro H locs hP hD hS ls hl
              refine lv_iload hx hb dX8_seats_39 (lv_at hl 5 rfl) ?_
              refine lv_if_lt (tgt := 135) hx hb dX8_seats_41 (by decide) (fun c285 => ?_) (fun c285 => ?_)
              · have hf := ifp c285 hf
                exact E279 _ hf H locs hP hD hS ls (lv_sub hl [0, 1, 2, 3, 4] rfl)
              · have hf := ifn c285 hf
                refine lv_aload_n hx hb dX8_seats_44 rfl (lv_at hl 0 rfl) ?_
                refine va_get (D := D) (ci := 8) (v := .ref q_t_likes) (C := RX8) (T := TX8) (N := 23) hx hb hts inX8 hown hK hP 0 rfl rfl 5 (by decide) (hts _ lfX8_22) (fun _ h9 => h9) rfl dX8_seats_45 ?_
                refine lv_iload hx hb dX8_seats_48 (lv_at hl 4 rfl) ?_
                obtain ⟨x286, ex286, ix286, hf⟩ := ldIE hf
                refine k_iald hx hb hK hP 1 0 rfl rfl ix286 ex286 dX8_seats_50 ?_
                refine lv_aload_n hx hb dX8_seats_51 rfl (lv_at hl 0 rfl) ?_
                refine va_get (D := D) (ci := 8) (v := .int t_there) (C := RX8) (T := TX8) (N := 23) hx hb hts inX8 hown hK hP 0 rfl rfl 0 (by decide) (hts _ lfX8_57) (fun _ h9 => h9) rfl dX8_seats_52 ?_
                refine lv_iand hx hb dX8_seats_55 ?_
                refine lv_iload hx hb dX8_seats_56 (lv_at hl 5 rfl) ?_
                obtain ⟨r287, h288, hf⟩ := bd1E hf
                refine kO_stat hx hb hml hown hts hK hn hP (kX8_has l D G (x286 &&& t_there) w277 h288) csX8_65 ⟨Nat.le_of_ble_eq_true rfl, Nat.le_of_ble_eq_true rfl⟩ [] rfl rfl hl.1 rfl (Nat.le_of_ble_eq_true rfl) ⟨Nat.zero_le _, Nat.zero_le _⟩ dX8_seats_58 ?_
                obtain ⟨j314, h349, hf⟩ := bd1E hf
                have E323 : ∀ (z315 : Int32), some z315 = some j314 → ∀ (H : Heap) (locs : List Loc), va_P D vwCl [(q_t, .inr (8, [.int t_there, .ref q_t_book, .ref q_t_now, .ref q_t_does, .ref q_t_bad, .ref q_t_likes, .int t_sights, .ref q_t_sight, .int t_signs, .ref q_t_pad, .ref q_t_then, .int t_worseAt, .int t_worseWho, .int t_hours, .ref q_t_ahead, .int t_reason, .int t_acts, .ref q_t_most, .ref q_t_worth, .ref q_t_damp, .ref q_t_next, .ref q_t_image, .ref q_t_isKept])), (q_t_likes, .inl (G 0, 6, .inl t_likes)), (q_t_most, .inl (G 0, 448, .inl o4))] H → va_D A [(q_t, .inr (8, [.int t_there, .ref q_t_book, .ref q_t_now, .ref q_t_does, .ref q_t_bad, .ref q_t_likes, .int t_sights, .ref q_t_sight, .int t_signs, .ref q_t_pad, .ref q_t_then, .int t_worseAt, .int t_worseWho, .int t_hours, .ref q_t_ahead, .int t_reason, .int t_acts, .ref q_t_most, .ref q_t_worth, .ref q_t_damp, .ref q_t_next, .ref q_t_image, .ref q_t_isKept])), (q_t_likes, .inl (G 0, 6, .inl t_likes)), (q_t_most, .inl (G 0, 448, .inl o4))] → va_S A s.heap H locs → ∀ ls : Array Slot, lv_has ls 7 [(0, .ref q_t), (1, .int v1), (2, .int w185), (3, .int w276), (4, .int w187), (5, .int w277)] → W p l e (kR 3 106) s m args below meth c H locs 0 0 Q (F0 m 115 ls [.int z315]) := by
                  intro z315 hy; obtain rfl := sm1 hy
                  intro H locs hP hD hS ls hl
                  refine lv_istore (lv' := [(6, .int z315), (0, .ref q_t), (1, .int v1), (2, .int w185), (3, .int w276), (4, .int w187), (5, .int w277)]) hx hb dX8_seats_115 hl (by decide) rfl (fun ls hl => ?_)
                  refine lv_iload hx hb dX8_seats_117 (lv_at hl 0 rfl) ?_
                  obtain ⟨j317, h322, hf⟩ := bd1E hf
                  have E320 : ∀ (z318 : Int32), some z318 = some j317 → ∀ (H : Heap) (locs : List Loc), va_P D vwCl [(q_t, .inr (8, [.int t_there, .ref q_t_book, .ref q_t_now, .ref q_t_does, .ref q_t_bad, .ref q_t_likes, .int t_sights, .ref q_t_sight, .int t_signs, .ref q_t_pad, .ref q_t_then, .int t_worseAt, .int t_worseWho, .int t_hours, .ref q_t_ahead, .int t_reason, .int t_acts, .ref q_t_most, .ref q_t_worth, .ref q_t_damp, .ref q_t_next, .ref q_t_image, .ref q_t_isKept])), (q_t_likes, .inl (G 0, 6, .inl t_likes)), (q_t_most, .inl (G 0, 448, .inl o4))] H → va_D A [(q_t, .inr (8, [.int t_there, .ref q_t_book, .ref q_t_now, .ref q_t_does, .ref q_t_bad, .ref q_t_likes, .int t_sights, .ref q_t_sight, .int t_signs, .ref q_t_pad, .ref q_t_then, .int t_worseAt, .int t_worseWho, .int t_hours, .ref q_t_ahead, .int t_reason, .int t_acts, .ref q_t_most, .ref q_t_worth, .ref q_t_damp, .ref q_t_next, .ref q_t_image, .ref q_t_isKept])), (q_t_likes, .inl (G 0, 6, .inl t_likes)), (q_t_most, .inl (G 0, 448, .inl o4))] → va_S A s.heap H locs → ∀ ls : Array Slot, lv_has ls 7 [(0, .ref q_t), (1, .int v1), (2, .int w185), (4, .int w187), (5, .int w277)] → W p l e (kR 3 106) s m args below meth c H locs 0 0 Q (F0 m 128 ls [.int z318]) := by
                    intro z318 hy; obtain rfl := sm1 hy
                    intro H locs hP hD hS ls hl
                    refine lv_istore_n (lv' := [(3, .int z318), (0, .ref q_t), (1, .int v1), (2, .int w185), (4, .int w187), (5, .int w277)]) hx hb dX8_seats_128 rfl hl (by decide) rfl (fun ls hl => ?_)
                    obtain ⟨y319, ey319⟩ : ∃ y : Int32, y = w277 + (-1 : Int32) := ⟨_, rfl⟩
                    have hf := nmeU ey319 hf
                    refine lv_iinc (v := y319) (lv' := [(5, .int y319), (3, .int z318), (0, .ref q_t), (1, .int v1), (2, .int w185), (4, .int w187)]) hx hb dX8_seats_129 hl (k := 5) rfl (by rw [ey319]; rfl) (by decide) rfl (fun ls hl => ?_)
                    refine lv_goto (tgt := 39) hx hb dX8_seats_132 (by decide) ?_
                    exact ih _ _ hf H locs hP hD hS ls (lv_sub hl [2, 3, 4, 1, 5, 0] rfl)
                  have hf := h322
                  refine lv_if_eq (tgt := 127) hx hb dX8_seats_119 (by decide) (fun c321 => ?_) (fun c321 => ?_)
                  · have hf := ifp c321 hf
                    refine lv_iload_n hx hb dX8_seats_127 rfl (lv_at hl 4 rfl) ?_
                    exact E320 _ hf H locs hP hD hS ls (lv_sub hl [1, 2, 3, 5, 6] rfl)
                  · have hf := ifn c321 hf
                    refine lv_iload hx hb dX8_seats_122 (lv_at hl 6 rfl) ?_
                    refine lv_goto (tgt := 128) hx hb dX8_seats_124 (by decide) ?_
                    exact E320 _ hf H locs hP hD hS ls (lv_sub hl [1, 2, 3, 5, 6] rfl)
                have hf := h349
                refine lv_if_eq (tgt := 114) hx hb dX8_seats_61 (by decide) (fun c324 => ?_) (fun c324 => ?_)
                · have hf := ifp c324 hf
                  refine lv_iconst (v := (0 : Int32)) hx hb dX8_seats_114 (by decide) ?_
                  exact E323 _ hf H locs hP hD hS ls (lv_sub hl [0, 1, 2, 3, 4, 5] rfl)
                · have hf := ifn c324 hf
                  refine lv_iload_n hx hb dX8_seats_64 rfl (lv_at hl 2 rfl) ?_
                  refine lv_iload hx hb dX8_seats_65 (lv_at hl 5 rfl) ?_
                  obtain ⟨r325, h326, hf⟩ := bd1E hf
                  refine kO_stat hx hb hml hown hts hK hn hP (kX8_has l D G w185 w277 h326) csX8_65 ⟨Nat.le_of_ble_eq_true rfl, Nat.le_of_ble_eq_true rfl⟩ [] rfl rfl hl.1 rfl (Nat.le_of_ble_eq_true rfl) ⟨Nat.zero_le _, Nat.zero_le _⟩ dX8_seats_67 ?_
                  obtain ⟨j336, h348, hf⟩ := bd1E hf
                  have E338 : ∀ (z337 : Int32), some z337 = some j336 → ∀ (H : Heap) (locs : List Loc), va_P D vwCl [(q_t, .inr (8, [.int t_there, .ref q_t_book, .ref q_t_now, .ref q_t_does, .ref q_t_bad, .ref q_t_likes, .int t_sights, .ref q_t_sight, .int t_signs, .ref q_t_pad, .ref q_t_then, .int t_worseAt, .int t_worseWho, .int t_hours, .ref q_t_ahead, .int t_reason, .int t_acts, .ref q_t_most, .ref q_t_worth, .ref q_t_damp, .ref q_t_next, .ref q_t_image, .ref q_t_isKept])), (q_t_likes, .inl (G 0, 6, .inl t_likes)), (q_t_most, .inl (G 0, 448, .inl o4))] H → va_D A [(q_t, .inr (8, [.int t_there, .ref q_t_book, .ref q_t_now, .ref q_t_does, .ref q_t_bad, .ref q_t_likes, .int t_sights, .ref q_t_sight, .int t_signs, .ref q_t_pad, .ref q_t_then, .int t_worseAt, .int t_worseWho, .int t_hours, .ref q_t_ahead, .int t_reason, .int t_acts, .ref q_t_most, .ref q_t_worth, .ref q_t_damp, .ref q_t_next, .ref q_t_image, .ref q_t_isKept])), (q_t_likes, .inl (G 0, 6, .inl t_likes)), (q_t_most, .inl (G 0, 448, .inl o4))] → va_S A s.heap H locs → ∀ ls : Array Slot, lv_has ls 7 [(0, .ref q_t), (1, .int v1), (2, .int w185), (3, .int w276), (4, .int w187), (5, .int w277)] → W p l e (kR 3 106) s m args below meth c H locs 0 0 Q (F0 m 115 ls [.int z337]) := by
                    intro z337 hy; obtain rfl := sm1 hy
                    intro H locs hP hD hS ls hl
                    exact E323 _ hf H locs hP hD hS ls (lv_sub hl [0, 1, 2, 3, 4, 5] rfl)
                  have hf := h348
                  refine lv_if_ne (tgt := 114) hx hb dX8_seats_70 (by decide) (fun c339 => ?_) (fun c339 => ?_)
                  · have hf := ifn c339 hf
                    refine lv_iconst (v := (0 : Int32)) hx hb dX8_seats_114 (by decide) ?_
                    exact E338 _ hf H locs hP hD hS ls (lv_sub hl [0, 1, 2, 3, 4, 5] rfl)
                  · have hf := ifp c339 hf
                    refine lv_iconst (v := (1 : Int32)) hx hb dX8_seats_73 (by decide) ?_
                    refine lv_aload_n hx hb dX8_seats_74 rfl (lv_at hl 0 rfl) ?_
                    refine va_get (D := D) (ci := 8) (v := .ref q_t_most) (C := RX8) (T := TX8) (N := 23) hx hb hts inX8 hown hK hP 0 rfl rfl 17 (by decide) (hts _ lfX8_37) (fun _ h9 => h9) rfl dX8_seats_75 ?_
                    refine lv_bipush (v := (64 : Int32)) hx hb dX8_seats_78 (by decide) ?_
                    refine lv_iload hx hb dX8_seats_80 (lv_at hl 4 rfl) ?_
                    refine lv_imul hx hb dX8_seats_82 ?_
                    refine lv_bipush (v := (64 : Int32)) hx hb dX8_seats_83 (by decide) ?_
                    refine lv_iadd hx hb dX8_seats_85 ?_
                    refine lv_iload_n hx hb dX8_seats_86 rfl (lv_at hl 2 rfl) ?_
                    refine lv_iconst (v := (1 : Int32)) hx hb dX8_seats_87 (by decide) ?_
                    refine lv_iload hx hb dX8_seats_88 (lv_at hl 5 rfl) ?_
                    refine lv_ishl hx hb dX8_seats_90 ?_
                    refine lv_ior hx hb dX8_seats_91 ?_
                    refine lv_iadd hx hb dX8_seats_92 ?_
                    obtain ⟨x340, ex340, ix340, hf⟩ := ldIE hf
                    refine k_iald hx hb hK hP 2 0 rfl rfl ix340 ex340 dX8_seats_93 ?_
                    refine lv_iadd hx hb dX8_seats_94 ?_
                    refine lv_aload_n hx hb dX8_seats_95 rfl (lv_at hl 0 rfl) ?_
                    refine va_get (D := D) (ci := 8) (v := .ref q_t_most) (C := RX8) (T := TX8) (N := 23) hx hb hts inX8 hown hK hP 0 rfl rfl 17 (by decide) (hts _ lfX8_37) (fun _ h9 => h9) rfl dX8_seats_96 ?_
                    refine lv_bipush (v := (64 : Int32)) hx hb dX8_seats_99 (by decide) ?_
                    refine lv_iload hx hb dX8_seats_101 (lv_at hl 4 rfl) ?_
                    refine lv_imul hx hb dX8_seats_103 ?_
                    refine lv_iload_n hx hb dX8_seats_104 rfl (lv_at hl 2 rfl) ?_
                    refine lv_iadd hx hb dX8_seats_105 ?_
                    obtain ⟨x341, ex341, ix341, hf⟩ := ldIE hf
                    refine k_iald hx hb hK hP 2 0 rfl rfl ix341 ex341 dX8_seats_106 ?_
                    obtain ⟨j343, h347, hf⟩ := bd1E hf
                    have E345 : ∀ (z344 : Int32), some z344 = some j343 → ∀ (H : Heap) (locs : List Loc), va_P D vwCl [(q_t, .inr (8, [.int t_there, .ref q_t_book, .ref q_t_now, .ref q_t_does, .ref q_t_bad, .ref q_t_likes, .int t_sights, .ref q_t_sight, .int t_signs, .ref q_t_pad, .ref q_t_then, .int t_worseAt, .int t_worseWho, .int t_hours, .ref q_t_ahead, .int t_reason, .int t_acts, .ref q_t_most, .ref q_t_worth, .ref q_t_damp, .ref q_t_next, .ref q_t_image, .ref q_t_isKept])), (q_t_likes, .inl (G 0, 6, .inl t_likes)), (q_t_most, .inl (G 0, 448, .inl o4))] H → va_D A [(q_t, .inr (8, [.int t_there, .ref q_t_book, .ref q_t_now, .ref q_t_does, .ref q_t_bad, .ref q_t_likes, .int t_sights, .ref q_t_sight, .int t_signs, .ref q_t_pad, .ref q_t_then, .int t_worseAt, .int t_worseWho, .int t_hours, .ref q_t_ahead, .int t_reason, .int t_acts, .ref q_t_most, .ref q_t_worth, .ref q_t_damp, .ref q_t_next, .ref q_t_image, .ref q_t_isKept])), (q_t_likes, .inl (G 0, 6, .inl t_likes)), (q_t_most, .inl (G 0, 448, .inl o4))] → va_S A s.heap H locs → ∀ ls : Array Slot, lv_has ls 7 [(0, .ref q_t), (1, .int v1), (2, .int w185), (3, .int w276), (4, .int w187), (5, .int w277)] → W p l e (kR 3 106) s m args below meth c H locs 0 0 Q (F0 m 115 ls [.int z344]) := by
                      intro z344 hy; obtain rfl := sm1 hy
                      intro H locs hP hD hS ls hl
                      exact E338 _ hf H locs hP hD hS ls (lv_sub hl [0, 1, 2, 3, 4, 5] rfl)
                    have hf := h347
                    refine lv_icmp_ne (tgt := 114) hx hb dX8_seats_107 (by decide) (fun c346 => ?_) (fun c346 => ?_)
                    · have hf := ifn c346 hf
                      refine lv_iconst (v := (0 : Int32)) hx hb dX8_seats_114 (by decide) ?_
                      exact E345 _ hf H locs hP hD hS ls (lv_sub hl [0, 1, 2, 3, 4, 5] rfl)
                    · have hf := ifp c346 hf
                      refine lv_iconst (v := (1 : Int32)) hx hb dX8_seats_110 (by decide) ?_
                      refine lv_goto (tgt := 115) hx hb dX8_seats_111 (by decide) ?_
                      exact E345 _ hf H locs hP hD hS ls (lv_sub hl [0, 1, 2, 3, 4, 5] rfl)
          exact L280 fu (-6 : Int32) (5 : Int32) h282 H locs hP hD hS ls (lv_sub hl [2, 3, 4, 1, 5, 0] rfl)
    exact L190 fu (0 : Int32) x6 (0 : Int32) h192 H locs hP hD hS ls (lv_sub hl [3, 4, 2, 1, 0] rfl)
  · have hf := ifp c3 hf
    refine lv_iconst (v := (-1 : Int32)) hx hb dX8_seats_9 (by decide) ?_
    exact RT _ _ hf _ _ _ H locs dX8_seats_10 (rkI _) hP hD hS
set_option maxHeartbeats 4000000 in
set_option maxRecDepth 100000 in
theorem kX8_seen (l : Launch) (D : va_G) (G : Nat → ClassId) (q_t q_t_book q_t_now q_t_does q_t_bad q_t_likes q_t_sight q_t_pad q_t_then q_t_ahead q_t_most q_t_worth q_t_damp q_t_next q_t_image q_t_isKept : Nat) (t_there : Int32) (t_sights : Int32) (t_signs : Int32) (t_worseAt : Int32) (t_worseWho : Int32) (t_hours : Int32) (t_reason : Int32) (t_acts : Int32) (t_sight : Nat → Int32) (v1 : Int32) (v2 : Int32) (v3 : Int32) {r : Int32} {o_t_sights : Int32} {o_t_sight : Nat → Int32} (hf : fX8_seen t_sights t_sight v1 v2 v3 = some (r, o_t_sights, o_t_sight)) : rW l D G yX8_seen cX8_seen 4 (some .int) 2 82 [.ref q_t, .int v1, .int v2, .int v3] [(q_t, .inr (8, [.int t_there, .ref q_t_book, .ref q_t_now, .ref q_t_does, .ref q_t_bad, .ref q_t_likes, .int t_sights, .ref q_t_sight, .int t_signs, .ref q_t_pad, .ref q_t_then, .int t_worseAt, .int t_worseWho, .int t_hours, .ref q_t_ahead, .int t_reason, .int t_acts, .ref q_t_most, .ref q_t_worth, .ref q_t_damp, .ref q_t_next, .ref q_t_image, .ref q_t_isKept])), (q_t_sight, .inl (G 0, 24, .inl t_sight))] [(q_t, .inr (8, [.int t_there, .ref q_t_book, .ref q_t_now, .ref q_t_does, .ref q_t_bad, .ref q_t_likes, .int o_t_sights, .ref q_t_sight, .int t_signs, .ref q_t_pad, .ref q_t_then, .int t_worseAt, .int t_worseWho, .int t_hours, .ref q_t_ahead, .int t_reason, .int t_acts, .ref q_t_most, .ref q_t_worth, .ref q_t_damp, .ref q_t_next, .ref q_t_image, .ref q_t_isKept])), (q_t_sight, .inl (G 0, 24, .inl o_t_sight))] (some (.int r)) := by
  refine rW_of (by decide) (Nat.le_of_ble_eq_true rfl) ?_
  intro p e s m args below meth c Q A hx hb hml hown hts hK hn hA RET H locs hP hD hS ls hl
  have RT : ∀ (a0_ : Int32) (a1_ : Int32) (a2_ : Nat → Int32), some (a0_, a1_, a2_) = some (r, o_t_sights, o_t_sight) → ∀ (pc : Nat) (ls : Array Slot) (ins : Instr) (H : Heap) (locs : List Loc), decode cX8_seen pc = .ok (ins, 1) → rk (some .int) (some (.int a0_)) ins → va_P D vwCl [(q_t, .inr (8, [.int t_there, .ref q_t_book, .ref q_t_now, .ref q_t_does, .ref q_t_bad, .ref q_t_likes, .int a1_, .ref q_t_sight, .int t_signs, .ref q_t_pad, .ref q_t_then, .int t_worseAt, .int t_worseWho, .int t_hours, .ref q_t_ahead, .int t_reason, .int t_acts, .ref q_t_most, .ref q_t_worth, .ref q_t_damp, .ref q_t_next, .ref q_t_image, .ref q_t_isKept])), (q_t_sight, .inl (G 0, 24, .inl a2_))] H → va_D A [(q_t, .inr (8, [.int t_there, .ref q_t_book, .ref q_t_now, .ref q_t_does, .ref q_t_bad, .ref q_t_likes, .int a1_, .ref q_t_sight, .int t_signs, .ref q_t_pad, .ref q_t_then, .int t_worseAt, .int t_worseWho, .int t_hours, .ref q_t_ahead, .int t_reason, .int t_acts, .ref q_t_most, .ref q_t_worth, .ref q_t_damp, .ref q_t_next, .ref q_t_image, .ref q_t_isKept])), (q_t_sight, .inl (G 0, 24, .inl a2_))] → va_S A s.heap H locs → W p l e (kR 2 82) s m args below meth c H locs 0 0 Q (F0 m pc ls [.int a0_]) := by
    intro a0_ a1_ a2_ hy; obtain ⟨rfl, rfl, rfl⟩ := sm3 hy
    exact RET
  have hown : s.vm.findClass RX8 = some m.cls := hown
  have hl : lv_has ls 4 [(0, .ref q_t), (1, .int v1), (2, .int v2), (3, .int v3)] := hl
  clear RET
  rw [fX8_seen] at hf
  refine lv_iload_n hx hb dX8_seen_0 rfl (lv_at hl 1 rfl) ?_
  refine lv_iconst (v := (0 : Int32)) hx hb dX8_seen_1 (by decide) ?_
  refine lv_bipush (v := (20 : Int32)) hx hb dX8_seen_2 (by decide) ?_
  obtain ⟨r1, h2, hf⟩ := bd1E hf
  refine kO_stat hx hb hml hown hts hK hn hP (kX8_in l D G v1 (0 : Int32) (20 : Int32) h2) csX8_61 ⟨Nat.le_of_ble_eq_true rfl, Nat.le_of_ble_eq_true rfl⟩ [] rfl rfl hl.1 rfl (Nat.le_of_ble_eq_true rfl) ⟨Nat.zero_le _, Nat.zero_le _⟩ dX8_seen_4 ?_
  refine lv_if_eq (tgt := 30) hx hb dX8_seen_7 (by decide) (fun c3 => ?_) (fun c3 => ?_)
  · have hf := ifp c3 hf
    refine lv_bipush (v := (-2 : Int32)) hx hb dX8_seen_30 (by decide) ?_
    exact RT _ _ _ hf _ _ _ H locs dX8_seen_32 (rkI _) hP hD hS
  · have hf := ifn c3 hf
    refine lv_iload_n hx hb dX8_seen_10 rfl (lv_at hl 2 rfl) ?_
    refine lv_iconst (v := (1 : Int32)) hx hb dX8_seen_11 (by decide) ?_
    refine lv_bipush (v := (9 : Int32)) hx hb dX8_seen_12 (by decide) ?_
    obtain ⟨r4, h5, hf⟩ := bd1E hf
    refine kO_stat hx hb hml hown hts hK hn hP (kX8_in l D G v2 (1 : Int32) (9 : Int32) h5) csX8_61 ⟨Nat.le_of_ble_eq_true rfl, Nat.le_of_ble_eq_true rfl⟩ [] rfl rfl hl.1 rfl (Nat.le_of_ble_eq_true rfl) ⟨Nat.zero_le _, Nat.zero_le _⟩ dX8_seen_14 ?_
    refine lv_if_eq (tgt := 30) hx hb dX8_seen_17 (by decide) (fun c6 => ?_) (fun c6 => ?_)
    · have hf := ifp c6 hf
      refine lv_bipush (v := (-2 : Int32)) hx hb dX8_seen_30 (by decide) ?_
      exact RT _ _ _ hf _ _ _ H locs dX8_seen_32 (rkI _) hP hD hS
    · have hf := ifn c6 hf
      refine lv_iload_n hx hb dX8_seen_20 rfl (lv_at hl 3 rfl) ?_
      refine lv_iconst (v := (0 : Int32)) hx hb dX8_seen_21 (by decide) ?_
      refine lv_bipush (v := (20 : Int32)) hx hb dX8_seen_22 (by decide) ?_
      obtain ⟨r7, h8, hf⟩ := bd1E hf
      refine kO_stat hx hb hml hown hts hK hn hP (kX8_in l D G v3 (0 : Int32) (20 : Int32) h8) csX8_61 ⟨Nat.le_of_ble_eq_true rfl, Nat.le_of_ble_eq_true rfl⟩ [] rfl rfl hl.1 rfl (Nat.le_of_ble_eq_true rfl) ⟨Nat.zero_le _, Nat.zero_le _⟩ dX8_seen_24 ?_
      refine lv_if_ne (tgt := 33) hx hb dX8_seen_27 (by decide) (fun c9 => ?_) (fun c9 => ?_)
      · have hf := ifn c9 hf
        refine lv_aload_n hx hb dX8_seen_33 rfl (lv_at hl 0 rfl) ?_
        refine va_get (D := D) (ci := 8) (v := .int t_sights) (C := RX8) (T := TX8) (N := 23) hx hb hts inX8 hown hK hP 0 rfl rfl 6 (by decide) (hts _ lfX8_150) (fun _ h9 => h9) rfl dX8_seen_34 ?_
        refine lv_bipush (v := (8 : Int32)) hx hb dX8_seen_37 (by decide) ?_
        refine lv_icmp_ne (tgt := 45) hx hb dX8_seen_39 (by decide) (fun c10 => ?_) (fun c10 => ?_)
        · have hf := ifn c10 hf
          refine lv_aload_n hx hb dX8_seen_45 rfl (lv_at hl 0 rfl) ?_
          refine va_get (D := D) (ci := 8) (v := .ref q_t_sight) (C := RX8) (T := TX8) (N := 23) hx hb hts inX8 hown hK hP 0 rfl rfl 7 (by decide) (hts _ lfX8_25) (fun _ h9 => h9) rfl dX8_seen_46 ?_
          refine lv_iconst (v := (3 : Int32)) hx hb dX8_seen_49 (by decide) ?_
          refine lv_aload_n hx hb dX8_seen_50 rfl (lv_at hl 0 rfl) ?_
          refine va_get (D := D) (ci := 8) (v := .int t_sights) (C := RX8) (T := TX8) (N := 23) hx hb hts inX8 hown hK hP 0 rfl rfl 6 (by decide) (hts _ lfX8_150) (fun _ h9 => h9) rfl dX8_seen_51 ?_
          refine lv_imul hx hb dX8_seen_54 ?_
          refine lv_iload_n hx hb dX8_seen_55 rfl (lv_at hl 1 rfl) ?_
          obtain ⟨g11, eg11, ig11, hf⟩ := stIE hf
          refine k_iast hx hb hK hP hD hS 1 0 rfl rfl ig11 eg11 dX8_seen_56 (fun H locs hP hD hS => ?_)
          have hP : va_P D vwCl [(q_t, .inr (8, [.int t_there, .ref q_t_book, .ref q_t_now, .ref q_t_does, .ref q_t_bad, .ref q_t_likes, .int t_sights, .ref q_t_sight, .int t_signs, .ref q_t_pad, .ref q_t_then, .int t_worseAt, .int t_worseWho, .int t_hours, .ref q_t_ahead, .int t_reason, .int t_acts, .ref q_t_most, .ref q_t_worth, .ref q_t_damp, .ref q_t_next, .ref q_t_image, .ref q_t_isKept])), (q_t_sight, .inl (G 0, 24, .inl g11))] H := hP
          have hD : va_D A [(q_t, .inr (8, [.int t_there, .ref q_t_book, .ref q_t_now, .ref q_t_does, .ref q_t_bad, .ref q_t_likes, .int t_sights, .ref q_t_sight, .int t_signs, .ref q_t_pad, .ref q_t_then, .int t_worseAt, .int t_worseWho, .int t_hours, .ref q_t_ahead, .int t_reason, .int t_acts, .ref q_t_most, .ref q_t_worth, .ref q_t_damp, .ref q_t_next, .ref q_t_image, .ref q_t_isKept])), (q_t_sight, .inl (G 0, 24, .inl g11))] := hD
          refine lv_aload_n hx hb dX8_seen_57 rfl (lv_at hl 0 rfl) ?_
          refine va_get (D := D) (ci := 8) (v := .ref q_t_sight) (C := RX8) (T := TX8) (N := 23) hx hb hts inX8 hown hK hP 0 rfl rfl 7 (by decide) (hts _ lfX8_25) (fun _ h9 => h9) rfl dX8_seen_58 ?_
          refine lv_iconst (v := (3 : Int32)) hx hb dX8_seen_61 (by decide) ?_
          refine lv_aload_n hx hb dX8_seen_62 rfl (lv_at hl 0 rfl) ?_
          refine va_get (D := D) (ci := 8) (v := .int t_sights) (C := RX8) (T := TX8) (N := 23) hx hb hts inX8 hown hK hP 0 rfl rfl 6 (by decide) (hts _ lfX8_150) (fun _ h9 => h9) rfl dX8_seen_63 ?_
          refine lv_imul hx hb dX8_seen_66 ?_
          refine lv_iconst (v := (1 : Int32)) hx hb dX8_seen_67 (by decide) ?_
          refine lv_iadd hx hb dX8_seen_68 ?_
          refine lv_iload_n hx hb dX8_seen_69 rfl (lv_at hl 2 rfl) ?_
          obtain ⟨g12, eg12, ig12, hf⟩ := stIE hf
          refine k_iast hx hb hK hP hD hS 1 0 rfl rfl ig12 eg12 dX8_seen_70 (fun H locs hP hD hS => ?_)
          have hP : va_P D vwCl [(q_t, .inr (8, [.int t_there, .ref q_t_book, .ref q_t_now, .ref q_t_does, .ref q_t_bad, .ref q_t_likes, .int t_sights, .ref q_t_sight, .int t_signs, .ref q_t_pad, .ref q_t_then, .int t_worseAt, .int t_worseWho, .int t_hours, .ref q_t_ahead, .int t_reason, .int t_acts, .ref q_t_most, .ref q_t_worth, .ref q_t_damp, .ref q_t_next, .ref q_t_image, .ref q_t_isKept])), (q_t_sight, .inl (G 0, 24, .inl g12))] H := hP
          have hD : va_D A [(q_t, .inr (8, [.int t_there, .ref q_t_book, .ref q_t_now, .ref q_t_does, .ref q_t_bad, .ref q_t_likes, .int t_sights, .ref q_t_sight, .int t_signs, .ref q_t_pad, .ref q_t_then, .int t_worseAt, .int t_worseWho, .int t_hours, .ref q_t_ahead, .int t_reason, .int t_acts, .ref q_t_most, .ref q_t_worth, .ref q_t_damp, .ref q_t_next, .ref q_t_image, .ref q_t_isKept])), (q_t_sight, .inl (G 0, 24, .inl g12))] := hD
          refine lv_aload_n hx hb dX8_seen_71 rfl (lv_at hl 0 rfl) ?_
          refine va_get (D := D) (ci := 8) (v := .ref q_t_sight) (C := RX8) (T := TX8) (N := 23) hx hb hts inX8 hown hK hP 0 rfl rfl 7 (by decide) (hts _ lfX8_25) (fun _ h9 => h9) rfl dX8_seen_72 ?_
          refine lv_iconst (v := (3 : Int32)) hx hb dX8_seen_75 (by decide) ?_
          refine lv_aload_n hx hb dX8_seen_76 rfl (lv_at hl 0 rfl) ?_
          refine va_get (D := D) (ci := 8) (v := .int t_sights) (C := RX8) (T := TX8) (N := 23) hx hb hts inX8 hown hK hP 0 rfl rfl 6 (by decide) (hts _ lfX8_150) (fun _ h9 => h9) rfl dX8_seen_77 ?_
          refine lv_imul hx hb dX8_seen_80 ?_
          refine lv_iconst (v := (2 : Int32)) hx hb dX8_seen_81 (by decide) ?_
          refine lv_iadd hx hb dX8_seen_82 ?_
          refine lv_iload_n hx hb dX8_seen_83 rfl (lv_at hl 3 rfl) ?_
          obtain ⟨g13, eg13, ig13, hf⟩ := stIE hf
          refine k_iast hx hb hK hP hD hS 1 0 rfl rfl ig13 eg13 dX8_seen_84 (fun H locs hP hD hS => ?_)
          have hP : va_P D vwCl [(q_t, .inr (8, [.int t_there, .ref q_t_book, .ref q_t_now, .ref q_t_does, .ref q_t_bad, .ref q_t_likes, .int t_sights, .ref q_t_sight, .int t_signs, .ref q_t_pad, .ref q_t_then, .int t_worseAt, .int t_worseWho, .int t_hours, .ref q_t_ahead, .int t_reason, .int t_acts, .ref q_t_most, .ref q_t_worth, .ref q_t_damp, .ref q_t_next, .ref q_t_image, .ref q_t_isKept])), (q_t_sight, .inl (G 0, 24, .inl g13))] H := hP
          have hD : va_D A [(q_t, .inr (8, [.int t_there, .ref q_t_book, .ref q_t_now, .ref q_t_does, .ref q_t_bad, .ref q_t_likes, .int t_sights, .ref q_t_sight, .int t_signs, .ref q_t_pad, .ref q_t_then, .int t_worseAt, .int t_worseWho, .int t_hours, .ref q_t_ahead, .int t_reason, .int t_acts, .ref q_t_most, .ref q_t_worth, .ref q_t_damp, .ref q_t_next, .ref q_t_image, .ref q_t_isKept])), (q_t_sight, .inl (G 0, 24, .inl g13))] := hD
          refine lv_aload_n hx hb dX8_seen_85 rfl (lv_at hl 0 rfl) ?_
          refine lv_dup hx hb dX8_seen_86 rfl ?_
          refine va_get (D := D) (ci := 8) (v := .int t_sights) (C := RX8) (T := TX8) (N := 23) hx hb hts inX8 hown hK hP 0 rfl rfl 6 (by decide) (hts _ lfX8_150) (fun _ h9 => h9) rfl dX8_seen_87 ?_
          refine lv_iconst (v := (1 : Int32)) hx hb dX8_seen_90 (by decide) ?_
          refine lv_iadd hx hb dX8_seen_91 ?_
          refine lv_topi (fun y14 ey14 => ?_)
          have hf := nmeU ey14 hf
          refine va_put (D := D) (ci := 8) (v := .int y14) (ty := .int) (C := RX8) (T := TX8) (N := 23) hx hb hts inX8 tyX8 tyX8_ok nmX8 hown hK hP hD hS 0 rfl rfl 6 (by decide) (hts _ lfX8_150) (fun _ h9 => h9) rfl (tyX8_ok 6 (by decide)) rfl rfl (Nat.le_of_ble_eq_true rfl) dX8_seen_92 (fun H locs hP hD hS => ?_)
          have hP : va_P D vwCl [(q_t, .inr (8, [.int t_there, .ref q_t_book, .ref q_t_now, .ref q_t_does, .ref q_t_bad, .ref q_t_likes, .int y14, .ref q_t_sight, .int t_signs, .ref q_t_pad, .ref q_t_then, .int t_worseAt, .int t_worseWho, .int t_hours, .ref q_t_ahead, .int t_reason, .int t_acts, .ref q_t_most, .ref q_t_worth, .ref q_t_damp, .ref q_t_next, .ref q_t_image, .ref q_t_isKept])), (q_t_sight, .inl (G 0, 24, .inl g13))] H := hP
          have hD : va_D A [(q_t, .inr (8, [.int t_there, .ref q_t_book, .ref q_t_now, .ref q_t_does, .ref q_t_bad, .ref q_t_likes, .int y14, .ref q_t_sight, .int t_signs, .ref q_t_pad, .ref q_t_then, .int t_worseAt, .int t_worseWho, .int t_hours, .ref q_t_ahead, .int t_reason, .int t_acts, .ref q_t_most, .ref q_t_worth, .ref q_t_damp, .ref q_t_next, .ref q_t_image, .ref q_t_isKept])), (q_t_sight, .inl (G 0, 24, .inl g13))] := hD
          refine lv_aload_n hx hb dX8_seen_95 rfl (lv_at hl 0 rfl) ?_
          refine va_get (D := D) (ci := 8) (v := .int y14) (C := RX8) (T := TX8) (N := 23) hx hb hts inX8 hown hK hP 0 rfl rfl 6 (by decide) (hts _ lfX8_150) (fun _ h9 => h9) rfl dX8_seen_96 ?_
          exact RT _ _ _ hf _ _ _ H locs dX8_seen_99 (rkI _) hP hD hS
        · have hf := ifp c10 hf
          refine lv_bipush (v := (-4 : Int32)) hx hb dX8_seen_42 (by decide) ?_
          exact RT _ _ _ hf _ _ _ H locs dX8_seen_44 (rkI _) hP hD hS
      · have hf := ifp c9 hf
        refine lv_bipush (v := (-2 : Int32)) hx hb dX8_seen_30 (by decide) ?_
        exact RT _ _ _ hf _ _ _ H locs dX8_seen_32 (rkI _) hP hD hS
set_option maxHeartbeats 4000000 in
set_option maxRecDepth 100000 in
theorem kX8_stays (l : Launch) (D : va_G) (G : Nat → ClassId) (fu : Nat) (q_t q_t_book q_t_now q_t_does q_t_bad q_t_likes q_t_sight q_t_pad q_t_then q_t_ahead q_t_most q_t_worth q_t_damp q_t_next q_t_image q_t_isKept : Nat) (t_there : Int32) (t_sights : Int32) (t_signs : Int32) (t_worseAt : Int32) (t_worseWho : Int32) (t_hours : Int32) (t_reason : Int32) (t_acts : Int32) (t_book : Nat → Int32) (t_now : Nat → Int32) (t_does : Nat → Int32) (t_bad : Nat → Int32) (t_then : Nat → Int32) (v1 : Int32) {r : Int32} {o_t_now : Nat → Int32} {o_t_then : Nat → Int32} (hf : fX8_stays fu t_there t_book t_now t_does t_bad t_then v1 = some (r, o_t_now, o_t_then)) : rW l D G yX8_stays cX8_stays 3 (some .int) 3 106 [.ref q_t, .int v1] [(q_t, .inr (8, [.int t_there, .ref q_t_book, .ref q_t_now, .ref q_t_does, .ref q_t_bad, .ref q_t_likes, .int t_sights, .ref q_t_sight, .int t_signs, .ref q_t_pad, .ref q_t_then, .int t_worseAt, .int t_worseWho, .int t_hours, .ref q_t_ahead, .int t_reason, .int t_acts, .ref q_t_most, .ref q_t_worth, .ref q_t_damp, .ref q_t_next, .ref q_t_image, .ref q_t_isKept])), (q_t_book, .inl (G 0, 26, .inl t_book)), (q_t_now, .inl (G 0, 26, .inl t_now)), (q_t_does, .inl (G 0, 12, .inl t_does)), (q_t_bad, .inl (G 0, 36, .inl t_bad)), (q_t_then, .inl (G 0, 18, .inl t_then))] [(q_t, .inr (8, [.int t_there, .ref q_t_book, .ref q_t_now, .ref q_t_does, .ref q_t_bad, .ref q_t_likes, .int t_sights, .ref q_t_sight, .int t_signs, .ref q_t_pad, .ref q_t_then, .int t_worseAt, .int t_worseWho, .int t_hours, .ref q_t_ahead, .int t_reason, .int t_acts, .ref q_t_most, .ref q_t_worth, .ref q_t_damp, .ref q_t_next, .ref q_t_image, .ref q_t_isKept])), (q_t_book, .inl (G 0, 26, .inl t_book)), (q_t_now, .inl (G 0, 26, .inl o_t_now)), (q_t_does, .inl (G 0, 12, .inl t_does)), (q_t_bad, .inl (G 0, 36, .inl t_bad)), (q_t_then, .inl (G 0, 18, .inl o_t_then))] (some (.int r)) := by
  refine rW_of (by decide) (Nat.le_of_ble_eq_true rfl) ?_
  intro p e s m args below meth c Q A hx hb hml hown hts hK hn hA RET H locs hP hD hS ls hl
  have RT : ∀ (a0_ : Int32) (a1_ : Nat → Int32) (a2_ : Nat → Int32), some (a0_, a1_, a2_) = some (r, o_t_now, o_t_then) → ∀ (pc : Nat) (ls : Array Slot) (ins : Instr) (H : Heap) (locs : List Loc), decode cX8_stays pc = .ok (ins, 1) → rk (some .int) (some (.int a0_)) ins → va_P D vwCl [(q_t, .inr (8, [.int t_there, .ref q_t_book, .ref q_t_now, .ref q_t_does, .ref q_t_bad, .ref q_t_likes, .int t_sights, .ref q_t_sight, .int t_signs, .ref q_t_pad, .ref q_t_then, .int t_worseAt, .int t_worseWho, .int t_hours, .ref q_t_ahead, .int t_reason, .int t_acts, .ref q_t_most, .ref q_t_worth, .ref q_t_damp, .ref q_t_next, .ref q_t_image, .ref q_t_isKept])), (q_t_book, .inl (G 0, 26, .inl t_book)), (q_t_now, .inl (G 0, 26, .inl a1_)), (q_t_does, .inl (G 0, 12, .inl t_does)), (q_t_bad, .inl (G 0, 36, .inl t_bad)), (q_t_then, .inl (G 0, 18, .inl a2_))] H → va_D A [(q_t, .inr (8, [.int t_there, .ref q_t_book, .ref q_t_now, .ref q_t_does, .ref q_t_bad, .ref q_t_likes, .int t_sights, .ref q_t_sight, .int t_signs, .ref q_t_pad, .ref q_t_then, .int t_worseAt, .int t_worseWho, .int t_hours, .ref q_t_ahead, .int t_reason, .int t_acts, .ref q_t_most, .ref q_t_worth, .ref q_t_damp, .ref q_t_next, .ref q_t_image, .ref q_t_isKept])), (q_t_book, .inl (G 0, 26, .inl t_book)), (q_t_now, .inl (G 0, 26, .inl a1_)), (q_t_does, .inl (G 0, 12, .inl t_does)), (q_t_bad, .inl (G 0, 36, .inl t_bad)), (q_t_then, .inl (G 0, 18, .inl a2_))] → va_S A s.heap H locs → W p l e (kR 3 106) s m args below meth c H locs 0 0 Q (F0 m pc ls [.int a0_]) := by
    intro a0_ a1_ a2_ hy; obtain ⟨rfl, rfl, rfl⟩ := sm3 hy
    exact RET
  have hown : s.vm.findClass RX8 = some m.cls := hown
  have hl : lv_has ls 3 [(0, .ref q_t), (1, .int v1)] := hl
  clear RET
  rw [fX8_stays] at hf
  refine lv_aload_n hx hb dX8_stays_0 rfl (lv_at hl 0 rfl) ?_
  refine lv_iload_n hx hb dX8_stays_1 rfl (lv_at hl 1 rfl) ?_
  obtain ⟨r1, h2, hf⟩ := bd1E hf
  refine kO_virt hx hb hml hown hts hK hn hP (kX8_isThere l D G q_t q_t_book q_t_now q_t_does q_t_bad q_t_likes q_t_sight q_t_pad q_t_then q_t_ahead q_t_most q_t_worth q_t_damp q_t_next q_t_image q_t_isKept t_there t_sights t_signs t_worseAt t_worseWho t_hours t_reason t_acts v1 h2) cvX8_73 ⟨Nat.le_of_ble_eq_true rfl, Nat.le_of_ble_eq_true rfl⟩ [0] rfl 0 rfl rfl rfl hl.1 rfl (Nat.le_of_ble_eq_true rfl) ⟨Nat.zero_le _, Nat.zero_le _⟩ dX8_stays_2 ?_
  refine lv_if_ne (tgt := 10) hx hb dX8_stays_5 (by decide) (fun c3 => ?_) (fun c3 => ?_)
  · have hf := ifn c3 hf
    refine lv_aload_n hx hb dX8_stays_10 rfl (lv_at hl 0 rfl) ?_
    obtain ⟨o4, h5, hf⟩ := bd1E hf
    refine kW_virt0 hx hb hml hown hts hK hn hA hP hD hS (kX8_asNow l D G fu q_t q_t_book q_t_now q_t_does q_t_bad q_t_likes q_t_sight q_t_pad q_t_then q_t_ahead q_t_most q_t_worth q_t_damp q_t_next q_t_image q_t_isKept t_there t_sights t_signs t_worseAt t_worseWho t_hours t_reason t_acts t_book t_now h5) cvX8_105 ⟨Nat.le_of_ble_eq_true rfl, Nat.le_of_ble_eq_true rfl⟩ [0, 1, 2] rfl rfl [true, true, true] rfl (w3 := [(q_t, .inr (8, [.int t_there, .ref q_t_book, .ref q_t_now, .ref q_t_does, .ref q_t_bad, .ref q_t_likes, .int t_sights, .ref q_t_sight, .int t_signs, .ref q_t_pad, .ref q_t_then, .int t_worseAt, .int t_worseWho, .int t_hours, .ref q_t_ahead, .int t_reason, .int t_acts, .ref q_t_most, .ref q_t_worth, .ref q_t_damp, .ref q_t_next, .ref q_t_image, .ref q_t_isKept])), (q_t_book, .inl (G 0, 26, .inl t_book)), (q_t_now, .inl (G 0, 26, .inl o4))]) [0, 1, 2] rfl rfl 0 rfl rfl rfl hl.1 rfl (Nat.le_of_ble_eq_true rfl) ⟨Nat.zero_le _, Nat.zero_le _⟩ dX8_stays_11 (fun H locs hP hD hS => ?_)
    have hP : va_P D vwCl [(q_t, .inr (8, [.int t_there, .ref q_t_book, .ref q_t_now, .ref q_t_does, .ref q_t_bad, .ref q_t_likes, .int t_sights, .ref q_t_sight, .int t_signs, .ref q_t_pad, .ref q_t_then, .int t_worseAt, .int t_worseWho, .int t_hours, .ref q_t_ahead, .int t_reason, .int t_acts, .ref q_t_most, .ref q_t_worth, .ref q_t_damp, .ref q_t_next, .ref q_t_image, .ref q_t_isKept])), (q_t_book, .inl (G 0, 26, .inl t_book)), (q_t_now, .inl (G 0, 26, .inl o4)), (q_t_does, .inl (G 0, 12, .inl t_does)), (q_t_bad, .inl (G 0, 36, .inl t_bad)), (q_t_then, .inl (G 0, 18, .inl t_then))] H := hP
    have hD : va_D A [(q_t, .inr (8, [.int t_there, .ref q_t_book, .ref q_t_now, .ref q_t_does, .ref q_t_bad, .ref q_t_likes, .int t_sights, .ref q_t_sight, .int t_signs, .ref q_t_pad, .ref q_t_then, .int t_worseAt, .int t_worseWho, .int t_hours, .ref q_t_ahead, .int t_reason, .int t_acts, .ref q_t_most, .ref q_t_worth, .ref q_t_damp, .ref q_t_next, .ref q_t_image, .ref q_t_isKept])), (q_t_book, .inl (G 0, 26, .inl t_book)), (q_t_now, .inl (G 0, 26, .inl o4)), (q_t_does, .inl (G 0, 12, .inl t_does)), (q_t_bad, .inl (G 0, 36, .inl t_bad)), (q_t_then, .inl (G 0, 18, .inl t_then))] := hD
    refine lv_aload_n hx hb dX8_stays_14 rfl (lv_at hl 0 rfl) ?_
    refine va_get (D := D) (ci := 8) (v := .ref q_t_now) (C := RX8) (T := TX8) (N := 23) hx hb hts inX8 hown hK hP 0 rfl rfl 2 (by decide) (hts _ lfX8_13) (fun _ h9 => h9) rfl dX8_stays_15 ?_
    refine lv_bipush (v := (24 : Int32)) hx hb dX8_stays_18 (by decide) ?_
    refine lv_iconst (v := (0 : Int32)) hx hb dX8_stays_20 (by decide) ?_
    obtain ⟨g6, eg6, ig6, hf⟩ := stIE hf
    refine k_iast hx hb hK hP hD hS 2 0 rfl rfl ig6 eg6 dX8_stays_21 (fun H locs hP hD hS => ?_)
    have hP : va_P D vwCl [(q_t, .inr (8, [.int t_there, .ref q_t_book, .ref q_t_now, .ref q_t_does, .ref q_t_bad, .ref q_t_likes, .int t_sights, .ref q_t_sight, .int t_signs, .ref q_t_pad, .ref q_t_then, .int t_worseAt, .int t_worseWho, .int t_hours, .ref q_t_ahead, .int t_reason, .int t_acts, .ref q_t_most, .ref q_t_worth, .ref q_t_damp, .ref q_t_next, .ref q_t_image, .ref q_t_isKept])), (q_t_book, .inl (G 0, 26, .inl t_book)), (q_t_now, .inl (G 0, 26, .inl g6)), (q_t_does, .inl (G 0, 12, .inl t_does)), (q_t_bad, .inl (G 0, 36, .inl t_bad)), (q_t_then, .inl (G 0, 18, .inl t_then))] H := hP
    have hD : va_D A [(q_t, .inr (8, [.int t_there, .ref q_t_book, .ref q_t_now, .ref q_t_does, .ref q_t_bad, .ref q_t_likes, .int t_sights, .ref q_t_sight, .int t_signs, .ref q_t_pad, .ref q_t_then, .int t_worseAt, .int t_worseWho, .int t_hours, .ref q_t_ahead, .int t_reason, .int t_acts, .ref q_t_most, .ref q_t_worth, .ref q_t_damp, .ref q_t_next, .ref q_t_image, .ref q_t_isKept])), (q_t_book, .inl (G 0, 26, .inl t_book)), (q_t_now, .inl (G 0, 26, .inl g6)), (q_t_does, .inl (G 0, 12, .inl t_does)), (q_t_bad, .inl (G 0, 36, .inl t_bad)), (q_t_then, .inl (G 0, 18, .inl t_then))] := hD
    refine lv_iconst (v := (0 : Int32)) hx hb dX8_stays_22 (by decide) ?_
    refine lv_istore_n (lv' := [(2, .int (0 : Int32)), (0, .ref q_t), (1, .int v1)]) hx hb dX8_stays_23 rfl hl (by decide) rfl (fun ls hl => ?_)
    obtain ⟨z37, h38, hr39, hc40⟩ := br2E hf
    have E35 : ∀ (z49 : Nat → Int32) (z50 : Nat → Int32), some (Sum.inr (z49, z50)) = some z37 → ∀ (H : Heap) (locs : List Loc), va_P D vwCl [(q_t, .inr (8, [.int t_there, .ref q_t_book, .ref q_t_now, .ref q_t_does, .ref q_t_bad, .ref q_t_likes, .int t_sights, .ref q_t_sight, .int t_signs, .ref q_t_pad, .ref q_t_then, .int t_worseAt, .int t_worseWho, .int t_hours, .ref q_t_ahead, .int t_reason, .int t_acts, .ref q_t_most, .ref q_t_worth, .ref q_t_damp, .ref q_t_next, .ref q_t_image, .ref q_t_isKept])), (q_t_book, .inl (G 0, 26, .inl t_book)), (q_t_now, .inl (G 0, 26, .inl z49)), (q_t_does, .inl (G 0, 12, .inl t_does)), (q_t_bad, .inl (G 0, 36, .inl t_bad)), (q_t_then, .inl (G 0, 18, .inl z50))] H → va_D A [(q_t, .inr (8, [.int t_there, .ref q_t_book, .ref q_t_now, .ref q_t_does, .ref q_t_bad, .ref q_t_likes, .int t_sights, .ref q_t_sight, .int t_signs, .ref q_t_pad, .ref q_t_then, .int t_worseAt, .int t_worseWho, .int t_hours, .ref q_t_ahead, .int t_reason, .int t_acts, .ref q_t_most, .ref q_t_worth, .ref q_t_damp, .ref q_t_next, .ref q_t_image, .ref q_t_isKept])), (q_t_book, .inl (G 0, 26, .inl t_book)), (q_t_now, .inl (G 0, 26, .inl z49)), (q_t_does, .inl (G 0, 12, .inl t_does)), (q_t_bad, .inl (G 0, 36, .inl t_bad)), (q_t_then, .inl (G 0, 18, .inl z50))] → va_S A s.heap H locs → ∀ ls : Array Slot, lv_has ls 3 [] → W p l e (kR 3 106) s m args below meth c H locs 0 0 Q (F0 m 50 ls []) := by
      intro z49 z50 hy; have hf := hc40 z49 z50 hy
      intro H locs hP hD hS ls hl
      refine lv_bipush (v := (-6 : Int32)) hx hb dX8_stays_50 (by decide) ?_
      exact RT _ _ _ hf _ _ _ H locs dX8_stays_52 (rkI _) hP hD hS
    have L36 : ∀ (k : Nat) (w30 : Int32) (w31 : Nat → Int32) (w32 : Nat → Int32), fX8_stays_24 fu v1 t_there t_does t_bad k w30 w31 w32 = some z37 → ∀ (H : Heap) (locs : List Loc), va_P D vwCl [(q_t, .inr (8, [.int t_there, .ref q_t_book, .ref q_t_now, .ref q_t_does, .ref q_t_bad, .ref q_t_likes, .int t_sights, .ref q_t_sight, .int t_signs, .ref q_t_pad, .ref q_t_then, .int t_worseAt, .int t_worseWho, .int t_hours, .ref q_t_ahead, .int t_reason, .int t_acts, .ref q_t_most, .ref q_t_worth, .ref q_t_damp, .ref q_t_next, .ref q_t_image, .ref q_t_isKept])), (q_t_book, .inl (G 0, 26, .inl t_book)), (q_t_now, .inl (G 0, 26, .inl w31)), (q_t_does, .inl (G 0, 12, .inl t_does)), (q_t_bad, .inl (G 0, 36, .inl t_bad)), (q_t_then, .inl (G 0, 18, .inl w32))] H → va_D A [(q_t, .inr (8, [.int t_there, .ref q_t_book, .ref q_t_now, .ref q_t_does, .ref q_t_bad, .ref q_t_likes, .int t_sights, .ref q_t_sight, .int t_signs, .ref q_t_pad, .ref q_t_then, .int t_worseAt, .int t_worseWho, .int t_hours, .ref q_t_ahead, .int t_reason, .int t_acts, .ref q_t_most, .ref q_t_worth, .ref q_t_damp, .ref q_t_next, .ref q_t_image, .ref q_t_isKept])), (q_t_book, .inl (G 0, 26, .inl t_book)), (q_t_now, .inl (G 0, 26, .inl w31)), (q_t_does, .inl (G 0, 12, .inl t_does)), (q_t_bad, .inl (G 0, 36, .inl t_bad)), (q_t_then, .inl (G 0, 18, .inl w32))] → va_S A s.heap H locs → ∀ ls : Array Slot, lv_has ls 3 [(0, .ref q_t), (1, .int v1), (2, .int w30)] → W p l e (kR 3 106) s m args below meth c H locs 0 0 Q (F0 m 24 ls []) := by
      intro k; induction k with
      | zero => intro w30 w31 w32 hf; exact nosome hf
      | succ k ih =>
        intro w30 w31 w32 hf; rw [fX8_stays_24] at hf
        intro H locs hP hD hS ls hl
        refine lv_iload_n hx hb dX8_stays_24 rfl (lv_at hl 2 rfl) ?_
        refine lv_bipush (v := (61 : Int32)) hx hb dX8_stays_25 (by decide) ?_
        refine lv_icmp_ge (tgt := 50) hx hb dX8_stays_27 (by decide) (fun c41 => ?_) (fun c41 => ?_)
        · have hf := ifp c41 hf
          exact E35 _ _ hf H locs hP hD hS ls (lv_sub hl [] rfl)
        · have hf := ifn c41 hf
          refine lv_aload_n hx hb dX8_stays_30 rfl (lv_at hl 0 rfl) ?_
          refine lv_iload_n hx hb dX8_stays_31 rfl (lv_at hl 1 rfl) ?_
          obtain ⟨r42, h43, hf⟩ := bd1E hf
          refine kO_virt hx hb hml hown hts hK hn hP (kX8_illsOf l D G q_t q_t_book q_t_now q_t_does q_t_bad q_t_likes q_t_sight q_t_pad q_t_then q_t_ahead q_t_most q_t_worth q_t_damp q_t_next q_t_image q_t_isKept t_there t_sights t_signs t_worseAt t_worseWho t_hours t_reason t_acts w31 v1 h43) cvX8_90 ⟨Nat.le_of_ble_eq_true rfl, Nat.le_of_ble_eq_true rfl⟩ [0, 2] rfl 0 rfl rfl rfl hl.1 rfl (Nat.le_of_ble_eq_true rfl) ⟨Nat.zero_le _, Nat.zero_le _⟩ dX8_stays_32 ?_
          refine lv_if_ne (tgt := 40) hx hb dX8_stays_35 (by decide) (fun c44 => ?_) (fun c44 => ?_)
          · have hf := ifn c44 hf
            refine lv_aload_n hx hb dX8_stays_40 rfl (lv_at hl 0 rfl) ?_
            obtain ⟨o45, o46, h47, hf⟩ := bd2E hf
            refine kW_virt0 hx hb hml hown hts hK hn hA hP hD hS (kX8_hour l D G fu q_t q_t_book q_t_now q_t_does q_t_bad q_t_likes q_t_sight q_t_pad q_t_then q_t_ahead q_t_most q_t_worth q_t_damp q_t_next q_t_image q_t_isKept t_there t_sights t_signs t_worseAt t_worseWho t_hours t_reason t_acts w31 t_does t_bad w32 h47) cvX8_93 ⟨Nat.le_of_ble_eq_true rfl, Nat.le_of_ble_eq_true rfl⟩ [0, 2, 3, 4, 5] rfl rfl [true, false, true, true, true, true] rfl (w3 := [(q_t, .inr (8, [.int t_there, .ref q_t_book, .ref q_t_now, .ref q_t_does, .ref q_t_bad, .ref q_t_likes, .int t_sights, .ref q_t_sight, .int t_signs, .ref q_t_pad, .ref q_t_then, .int t_worseAt, .int t_worseWho, .int t_hours, .ref q_t_ahead, .int t_reason, .int t_acts, .ref q_t_most, .ref q_t_worth, .ref q_t_damp, .ref q_t_next, .ref q_t_image, .ref q_t_isKept])), (q_t_now, .inl (G 0, 26, .inl o45)), (q_t_does, .inl (G 0, 12, .inl t_does)), (q_t_bad, .inl (G 0, 36, .inl t_bad)), (q_t_then, .inl (G 0, 18, .inl o46))]) [0, 1, 2, 3, 4] rfl rfl 0 rfl rfl rfl hl.1 rfl (Nat.le_of_ble_eq_true rfl) ⟨Nat.zero_le _, Nat.zero_le _⟩ dX8_stays_41 (fun H locs hP hD hS => ?_)
            have hP : va_P D vwCl [(q_t, .inr (8, [.int t_there, .ref q_t_book, .ref q_t_now, .ref q_t_does, .ref q_t_bad, .ref q_t_likes, .int t_sights, .ref q_t_sight, .int t_signs, .ref q_t_pad, .ref q_t_then, .int t_worseAt, .int t_worseWho, .int t_hours, .ref q_t_ahead, .int t_reason, .int t_acts, .ref q_t_most, .ref q_t_worth, .ref q_t_damp, .ref q_t_next, .ref q_t_image, .ref q_t_isKept])), (q_t_book, .inl (G 0, 26, .inl t_book)), (q_t_now, .inl (G 0, 26, .inl o45)), (q_t_does, .inl (G 0, 12, .inl t_does)), (q_t_bad, .inl (G 0, 36, .inl t_bad)), (q_t_then, .inl (G 0, 18, .inl o46))] H := hP
            have hD : va_D A [(q_t, .inr (8, [.int t_there, .ref q_t_book, .ref q_t_now, .ref q_t_does, .ref q_t_bad, .ref q_t_likes, .int t_sights, .ref q_t_sight, .int t_signs, .ref q_t_pad, .ref q_t_then, .int t_worseAt, .int t_worseWho, .int t_hours, .ref q_t_ahead, .int t_reason, .int t_acts, .ref q_t_most, .ref q_t_worth, .ref q_t_damp, .ref q_t_next, .ref q_t_image, .ref q_t_isKept])), (q_t_book, .inl (G 0, 26, .inl t_book)), (q_t_now, .inl (G 0, 26, .inl o45)), (q_t_does, .inl (G 0, 12, .inl t_does)), (q_t_bad, .inl (G 0, 36, .inl t_bad)), (q_t_then, .inl (G 0, 18, .inl o46))] := hD
            obtain ⟨y48, ey48⟩ : ∃ y : Int32, y = w30 + (1 : Int32) := ⟨_, rfl⟩
            have hf := nmeU ey48 hf
            refine lv_iinc (v := y48) (lv' := [(2, .int y48), (0, .ref q_t), (1, .int v1)]) hx hb dX8_stays_44 hl (k := 2) rfl (by rw [ey48]; rfl) (by decide) rfl (fun ls hl => ?_)
            refine lv_goto (tgt := 24) hx hb dX8_stays_47 (by decide) ?_
            exact ih _ _ _ hf H locs hP hD hS ls (lv_sub hl [1, 2, 0] rfl)
          · have hf := ifp c44 hf
            refine lv_iload_n hx hb dX8_stays_38 rfl (lv_at hl 2 rfl) ?_
            have hf := hr39 _ hf
            exact RT _ _ _ hf _ _ _ H locs dX8_stays_39 (rkI _) hP hD hS
    exact L36 fu (0 : Int32) g6 t_then h38 H locs hP hD hS ls (lv_sub hl [1, 2, 0] rfl)
  · have hf := ifp c3 hf
    refine lv_iconst (v := (-1 : Int32)) hx hb dX8_stays_8 (by decide) ?_
    exact RT _ _ _ hf _ _ _ H locs dX8_stays_9 (rkI _) hP hD hS
