set_option maxHeartbeats 4000000 in
set_option maxRecDepth 100000 in
theorem kX8_told (l : Launch) (D : va_G) (G : Nat → ClassId) (q_t q_t_book q_t_now q_t_does q_t_bad q_t_likes q_t_sight q_t_pad q_t_then q_t_ahead q_t_most q_t_worth q_t_damp q_t_next q_t_image q_t_isKept : Nat) (t_there : Int32) (t_sights : Int32) (t_signs : Int32) (t_worseAt : Int32) (t_worseWho : Int32) (t_hours : Int32) (t_reason : Int32) (t_acts : Int32) (t_book : Nat → Int32) (t_does : Nat → Int32) (t_bad : Nat → Int32) (t_likes : Nat → Int32) (v1 : Int32) {r : Int32} (hf : fX8_told t_there t_sights t_signs t_book t_does t_bad t_likes v1 = some r) : rO l D G yX8_told cX8_told 4 (some .int) 3 103 [.ref q_t, .int v1] [(q_t, .inr (8, [.int t_there, .ref q_t_book, .ref q_t_now, .ref q_t_does, .ref q_t_bad, .ref q_t_likes, .int t_sights, .ref q_t_sight, .int t_signs, .ref q_t_pad, .ref q_t_then, .int t_worseAt, .int t_worseWho, .int t_hours, .ref q_t_ahead, .int t_reason, .int t_acts, .ref q_t_most, .ref q_t_worth, .ref q_t_damp, .ref q_t_next, .ref q_t_image, .ref q_t_isKept])), (q_t_book, .inl (G 0, 26, .inl t_book)), (q_t_does, .inl (G 0, 12, .inl t_does)), (q_t_bad, .inl (G 0, 36, .inl t_bad)), (q_t_likes, .inl (G 0, 6, .inl t_likes))] (some (.int r)) := by
  refine rO_of (by decide) (Nat.le_of_ble_eq_true rfl) ?_
  intro p e s m args below meth c Q hx hb hml hown hts hK hn hP RET ls hl
  have RT : ∀ (a0_ : Int32), some a0_ = some r → ∀ (pc : Nat) (ls : Array Slot) (ins : Instr), decode cX8_told pc = .ok (ins, 1) → rk (some .int) (some (.int a0_)) ins → W p l e (kR 3 103) s m args below meth c s.heap [] 0 0 Q (F0 m pc ls [.int a0_]) := by
    intro a0_ hy; obtain rfl := sm1 hy
    exact RET
  have hown : s.vm.findClass RX8 = some m.cls := hown
  have hl : lv_has ls 4 [(0, .ref q_t), (1, .int v1)] := hl
  clear RET
  rw [fX8_told] at hf
  refine lv_iload_n hx hb dX8_told_0 rfl (lv_at hl 1 rfl) ?_
  refine lv_sipush (v := (600 : Int32)) hx hb dX8_told_1 (by decide) ?_
  refine lv_icmp_lt (tgt := 36) hx hb dX8_told_4 (by decide) (fun c1 => ?_) (fun c1 => ?_)
  · have hf := ifp c1 hf
    refine lv_iload_n hx hb dX8_told_36 rfl (lv_at hl 1 rfl) ?_
    refine lv_sipush (v := (500 : Int32)) hx hb dX8_told_37 (by decide) ?_
    refine lv_icmp_lt (tgt := 81) hx hb dX8_told_40 (by decide) (fun c2 => ?_) (fun c2 => ?_)
    · have hf := ifp c2 hf
      refine lv_iload_n hx hb dX8_told_81 rfl (lv_at hl 1 rfl) ?_
      refine lv_bipush (v := (100 : Int32)) hx hb dX8_told_82 (by decide) ?_
      refine lv_icmp_lt (tgt := 122) hx hb dX8_told_84 (by decide) (fun c3 => ?_) (fun c3 => ?_)
      · have hf := ifp c3 hf
        refine lv_iload_n hx hb dX8_told_122 rfl (lv_at hl 1 rfl) ?_
        refine lv_bipush (v := (10 : Int32)) hx hb dX8_told_123 (by decide) ?_
        refine lv_icmp_lt (tgt := 200) hx hb dX8_told_125 (by decide) (fun c4 => ?_) (fun c4 => ?_)
        · have hf := ifp c4 hf
          refine lv_iload_n hx hb dX8_told_200 rfl (lv_at hl 1 rfl) ?_
          by_cases c5 : v1 = (0 : Int32)
          · have hf := ifp c5 hf
            refine lv_tableIn (tgt := 232) (off := 31) hx hb dX8_told_201 (by rw [c5]; decide) (by rw [c5]; decide) (by rw [c5]; rfl) (by decide) ?_
            refine lv_aload_n hx hb dX8_told_232 rfl (lv_at hl 0 rfl) ?_
            refine va_get (D := D) (ci := 8) (v := .int t_signs) (C := RX8) (T := TX8) (N := 23) hx hb hts inX8 hown hK hP 0 rfl rfl 8 (by decide) (hts _ lfX8_80) (fun _ h9 => h9) rfl dX8_told_233 ?_
            exact RT _ hf _ _ _ dX8_told_236 (rkI _)
          have hf := ifn c5 hf
          by_cases c6 : v1 = (1 : Int32)
          · have hf := ifp c6 hf
            refine lv_tableIn (tgt := 237) (off := 36) hx hb dX8_told_201 (by rw [c6]; decide) (by rw [c6]; decide) (by rw [c6]; rfl) (by decide) ?_
            refine lv_aload_n hx hb dX8_told_237 rfl (lv_at hl 0 rfl) ?_
            refine va_get (D := D) (ci := 8) (v := .int t_there) (C := RX8) (T := TX8) (N := 23) hx hb hts inX8 hown hK hP 0 rfl rfl 0 (by decide) (hts _ lfX8_57) (fun _ h9 => h9) rfl dX8_told_238 ?_
            exact RT _ hf _ _ _ dX8_told_241 (rkI _)
          have hf := ifn c6 hf
          by_cases c7 : v1 = (2 : Int32)
          · have hf := ifp c7 hf
            refine lv_tableIn (tgt := 242) (off := 41) hx hb dX8_told_201 (by rw [c7]; decide) (by rw [c7]; decide) (by rw [c7]; rfl) (by decide) ?_
            refine lv_aload_n hx hb dX8_told_242 rfl (lv_at hl 0 rfl) ?_
            refine va_get (D := D) (ci := 8) (v := .ref q_t_book) (C := RX8) (T := TX8) (N := 23) hx hb hts inX8 hown hK hP 0 rfl rfl 1 (by decide) (hts _ lfX8_7) (fun _ h9 => h9) rfl dX8_told_243 ?_
            refine lv_bipush (v := (25 : Int32)) hx hb dX8_told_246 (by decide) ?_
            obtain ⟨x8, ex8, ix8, hf⟩ := ldIE hf
            refine k_iald hx hb hK hP 1 0 rfl rfl ix8 ex8 dX8_told_248 ?_
            exact RT _ hf _ _ _ dX8_told_249 (rkI _)
          have hf := ifn c7 hf
          by_cases c9 : v1 = (3 : Int32)
          · have hf := ifp c9 hf
            refine lv_tableIn (tgt := 250) (off := 49) hx hb dX8_told_201 (by rw [c9]; decide) (by rw [c9]; decide) (by rw [c9]; rfl) (by decide) ?_
            refine lv_aload_n hx hb dX8_told_250 rfl (lv_at hl 0 rfl) ?_
            refine va_get (D := D) (ci := 8) (v := .int t_sights) (C := RX8) (T := TX8) (N := 23) hx hb hts inX8 hown hK hP 0 rfl rfl 6 (by decide) (hts _ lfX8_150) (fun _ h9 => h9) rfl dX8_told_251 ?_
            exact RT _ hf _ _ _ dX8_told_254 (rkI _)
          have hf := ifn c9 hf
          refine lv_tableOut (tgt := 255) hx hb dX8_told_201 (k_swOut3 c5 c6 c7 c9) (by decide) ?_
          refine lv_iload_n hx hb dX8_told_255 rfl (lv_at hl 1 rfl) ?_
          refine lv_iconst (v := (4 : Int32)) hx hb dX8_told_256 (by decide) ?_
          refine lv_icmp_ne (tgt := 270) hx hb dX8_told_257 (by decide) (fun c10 => ?_) (fun c10 => ?_)
          · have hf := ifn c10 hf
            refine lv_bipush (v := (-2 : Int32)) hx hb dX8_told_270 (by decide) ?_
            exact RT _ hf _ _ _ dX8_told_272 (rkI _)
          · have hf := ifp c10 hf
            refine lv_aload_n hx hb dX8_told_260 rfl (lv_at hl 0 rfl) ?_
            refine va_get (D := D) (ci := 8) (v := .ref q_t_book) (C := RX8) (T := TX8) (N := 23) hx hb hts inX8 hown hK hP 0 rfl rfl 1 (by decide) (hts _ lfX8_7) (fun _ h9 => h9) rfl dX8_told_261 ?_
            refine lv_bipush (v := (24 : Int32)) hx hb dX8_told_264 (by decide) ?_
            obtain ⟨x11, ex11, ix11, hf⟩ := ldIE hf
            refine k_iald hx hb hK hP 1 0 rfl rfl ix11 ex11 dX8_told_266 ?_
            refine lv_goto (tgt := 272) hx hb dX8_told_267 (by decide) ?_
            exact RT _ hf _ _ _ dX8_told_272 (rkI _)
        · have hf := ifn c4 hf
          refine lv_iload_n hx hb dX8_told_128 rfl (lv_at hl 1 rfl) ?_
          refine lv_bipush (v := (10 : Int32)) hx hb dX8_told_129 (by decide) ?_
          refine lv_idiv hx hb dX8_told_131 (by decide) ?_
          refine lv_iconst (v := (1 : Int32)) hx hb dX8_told_132 (by decide) ?_
          refine lv_isub hx hb dX8_told_133 ?_
          refine lv_topi (fun y12 ey12 => ?_)
          have hf := nmeU ey12 hf
          refine lv_istore_n (lv' := [(2, .int y12), (0, .ref q_t), (1, .int v1)]) hx hb dX8_told_134 rfl hl (by decide) rfl (fun ls hl => ?_)
          refine lv_aload_n hx hb dX8_told_135 rfl (lv_at hl 1 rfl) ?_
          refine lv_iload_n hx hb dX8_told_136 rfl (lv_at hl 0 rfl) ?_
          obtain ⟨r13, h14, hf⟩ := bd1E hf
          refine kO_virt hx hb hml hown hts hK hn hP (kX8_isThere l D G q_t q_t_book q_t_now q_t_does q_t_bad q_t_likes q_t_sight q_t_pad q_t_then q_t_ahead q_t_most q_t_worth q_t_damp q_t_next q_t_image q_t_isKept t_there t_sights t_signs t_worseAt t_worseWho t_hours t_reason t_acts y12 h14) cvX8_73 ⟨Nat.le_of_ble_eq_true rfl, Nat.le_of_ble_eq_true rfl⟩ [0] rfl 0 rfl rfl rfl hl.1 rfl (Nat.le_of_ble_eq_true rfl) ⟨Nat.zero_le _, Nat.zero_le _⟩ dX8_told_137 ?_
          obtain ⟨j22, h36, hf⟩ := bd1E hf
          have E28 : ∀ (z23 : Int32), some z23 = some j22 → ∀ ls : Array Slot, lv_has ls 4 [(0, .ref q_t), (1, .int v1), (2, .int y12)] → W p l e (kR 3 103) s m args below meth c s.heap [] 0 0 Q (F0 m 156 ls [.int z23]) := by
            intro z23 hy; obtain rfl := sm1 hy
            intro ls hl
            refine lv_istore_n (lv' := [(3, .int z23), (0, .ref q_t), (1, .int v1), (2, .int y12)]) hx hb dX8_told_156 rfl hl (by decide) rfl (fun ls hl => ?_)
            refine lv_iload_n hx hb dX8_told_157 rfl (lv_at hl 0 rfl) ?_
            refine lv_if_ne (tgt := 166) hx hb dX8_told_158 (by decide) (fun c24 => ?_) (fun c24 => ?_)
            · have hf := ifn c24 hf
              refine lv_iload_n hx hb dX8_told_166 rfl (lv_at hl 2 rfl) ?_
              refine lv_bipush (v := (10 : Int32)) hx hb dX8_told_167 (by decide) ?_
              refine lv_irem hx hb dX8_told_169 (by decide) ?_
              refine lv_iconst (v := (3 : Int32)) hx hb dX8_told_170 (by decide) ?_
              refine lv_icmp_ne (tgt := 186) hx hb dX8_told_171 (by decide) (fun c25 => ?_) (fun c25 => ?_)
              · have hf := ifn c25 hf
                refine lv_aload_n hx hb dX8_told_186 rfl (lv_at hl 1 rfl) ?_
                refine va_get (D := D) (ci := 8) (v := .ref q_t_book) (C := RX8) (T := TX8) (N := 23) hx hb hts inX8 hown hK hP 0 rfl rfl 1 (by decide) (hts _ lfX8_7) (fun _ h9 => h9) rfl dX8_told_187 ?_
                refine lv_iconst (v := (3 : Int32)) hx hb dX8_told_190 (by decide) ?_
                refine lv_iload_n hx hb dX8_told_191 rfl (lv_at hl 3 rfl) ?_
                refine lv_imul hx hb dX8_told_192 ?_
                refine lv_iload_n hx hb dX8_told_193 rfl (lv_at hl 2 rfl) ?_
                refine lv_bipush (v := (10 : Int32)) hx hb dX8_told_194 (by decide) ?_
                refine lv_irem hx hb dX8_told_196 (by decide) ?_
                refine lv_iadd hx hb dX8_told_197 ?_
                obtain ⟨x26, ex26, ix26, hf⟩ := ldIE hf
                refine k_iald hx hb hK hP 1 0 rfl rfl ix26 ex26 dX8_told_198 ?_
                exact RT _ hf _ _ _ dX8_told_199 (rkI _)
              · have hf := ifp c25 hf
                refine lv_aload_n hx hb dX8_told_174 rfl (lv_at hl 1 rfl) ?_
                refine va_get (D := D) (ci := 8) (v := .ref q_t_book) (C := RX8) (T := TX8) (N := 23) hx hb hts inX8 hown hK hP 0 rfl rfl 1 (by decide) (hts _ lfX8_7) (fun _ h9 => h9) rfl dX8_told_175 ?_
                refine lv_bipush (v := (18 : Int32)) hx hb dX8_told_178 (by decide) ?_
                refine lv_iload_n hx hb dX8_told_180 rfl (lv_at hl 3 rfl) ?_
                refine lv_iadd hx hb dX8_told_181 ?_
                obtain ⟨x27, ex27, ix27, hf⟩ := ldIE hf
                refine k_iald hx hb hK hP 1 0 rfl rfl ix27 ex27 dX8_told_182 ?_
                refine lv_goto (tgt := 199) hx hb dX8_told_183 (by decide) ?_
                exact RT _ hf _ _ _ dX8_told_199 (rkI _)
            · have hf := ifp c24 hf
              refine lv_bipush (v := (-2 : Int32)) hx hb dX8_told_161 (by decide) ?_
              refine lv_goto (tgt := 199) hx hb dX8_told_163 (by decide) ?_
              exact RT _ hf _ _ _ dX8_told_199 (rkI _)
          have hf := h36
          refine lv_if_eq (tgt := 155) hx hb dX8_told_140 (by decide) (fun c29 => ?_) (fun c29 => ?_)
          · have hf := ifp c29 hf
            refine lv_iconst (v := (0 : Int32)) hx hb dX8_told_155 (by decide) ?_
            exact E28 _ hf ls (lv_sub hl [1, 2, 0] rfl)
          · have hf := ifn c29 hf
            refine lv_iload_n hx hb dX8_told_143 rfl (lv_at hl 2 rfl) ?_
            refine lv_bipush (v := (10 : Int32)) hx hb dX8_told_144 (by decide) ?_
            refine lv_irem hx hb dX8_told_146 (by decide) ?_
            refine lv_iconst (v := (4 : Int32)) hx hb dX8_told_147 (by decide) ?_
            obtain ⟨j31, h35, hf⟩ := bd1E hf
            have E33 : ∀ (z32 : Int32), some z32 = some j31 → ∀ ls : Array Slot, lv_has ls 4 [(0, .ref q_t), (1, .int v1), (2, .int y12)] → W p l e (kR 3 103) s m args below meth c s.heap [] 0 0 Q (F0 m 156 ls [.int z32]) := by
              intro z32 hy; obtain rfl := sm1 hy
              intro ls hl
              exact E28 _ hf ls (lv_sub hl [0, 1, 2] rfl)
            have hf := h35
            refine lv_icmp_ge (tgt := 155) hx hb dX8_told_148 (by decide) (fun c34 => ?_) (fun c34 => ?_)
            · have hf := ifp c34 hf
              refine lv_iconst (v := (0 : Int32)) hx hb dX8_told_155 (by decide) ?_
              exact E33 _ hf ls (lv_sub hl [1, 2, 0] rfl)
            · have hf := ifn c34 hf
              refine lv_iconst (v := (1 : Int32)) hx hb dX8_told_151 (by decide) ?_
              refine lv_goto (tgt := 156) hx hb dX8_told_152 (by decide) ?_
              exact E33 _ hf ls (lv_sub hl [1, 2, 0] rfl)
      · have hf := ifn c3 hf
        refine lv_iload_n hx hb dX8_told_87 rfl (lv_at hl 1 rfl) ?_
        refine lv_bipush (v := (100 : Int32)) hx hb dX8_told_88 (by decide) ?_
        refine lv_irem hx hb dX8_told_90 (by decide) ?_
        refine lv_iconst (v := (3 : Int32)) hx hb dX8_told_91 (by decide) ?_
        refine lv_icmp_ge (tgt := 119) hx hb dX8_told_92 (by decide) (fun c37 => ?_) (fun c37 => ?_)
        · have hf := ifp c37 hf
          refine lv_bipush (v := (-2 : Int32)) hx hb dX8_told_119 (by decide) ?_
          exact RT _ hf _ _ _ dX8_told_121 (rkI _)
        · have hf := ifn c37 hf
          refine lv_aload_n hx hb dX8_told_95 rfl (lv_at hl 0 rfl) ?_
          refine va_get (D := D) (ci := 8) (v := .ref q_t_does) (C := RX8) (T := TX8) (N := 23) hx hb hts inX8 hown hK hP 0 rfl rfl 3 (by decide) (hts _ lfX8_16) (fun _ h9 => h9) rfl dX8_told_96 ?_
          refine lv_iconst (v := (3 : Int32)) hx hb dX8_told_99 (by decide) ?_
          refine lv_iload_n hx hb dX8_told_100 rfl (lv_at hl 1 rfl) ?_
          refine lv_bipush (v := (100 : Int32)) hx hb dX8_told_101 (by decide) ?_
          refine lv_idiv hx hb dX8_told_103 (by decide) ?_
          refine lv_iconst (v := (1 : Int32)) hx hb dX8_told_104 (by decide) ?_
          refine lv_isub hx hb dX8_told_105 ?_
          refine lv_imul hx hb dX8_told_106 ?_
          refine lv_iload_n hx hb dX8_told_107 rfl (lv_at hl 1 rfl) ?_
          refine lv_bipush (v := (100 : Int32)) hx hb dX8_told_108 (by decide) ?_
          refine lv_irem hx hb dX8_told_110 (by decide) ?_
          refine lv_iadd hx hb dX8_told_111 ?_
          obtain ⟨x38, ex38, ix38, hf⟩ := ldIE hf
          refine k_iald hx hb hK hP 2 0 rfl rfl ix38 ex38 dX8_told_112 ?_
          refine lv_bipush (v := (10 : Int32)) hx hb dX8_told_113 (by decide) ?_
          refine lv_iadd hx hb dX8_told_115 ?_
          refine lv_goto (tgt := 121) hx hb dX8_told_116 (by decide) ?_
          exact RT _ hf _ _ _ dX8_told_121 (rkI _)
    · have hf := ifn c2 hf
      refine lv_iload_n hx hb dX8_told_43 rfl (lv_at hl 1 rfl) ?_
      refine lv_sipush (v := (500 : Int32)) hx hb dX8_told_44 (by decide) ?_
      refine lv_isub hx hb dX8_told_47 ?_
      refine lv_topi (fun y39 ey39 => ?_)
      have hf := nmeU ey39 hf
      refine lv_istore_n (lv' := [(2, .int y39), (0, .ref q_t), (1, .int v1)]) hx hb dX8_told_48 rfl hl (by decide) rfl (fun ls hl => ?_)
      refine lv_iload_n hx hb dX8_told_49 rfl (lv_at hl 0 rfl) ?_
      refine lv_bipush (v := (36 : Int32)) hx hb dX8_told_50 (by decide) ?_
      refine lv_icmp_ge (tgt := 78) hx hb dX8_told_52 (by decide) (fun c40 => ?_) (fun c40 => ?_)
      · have hf := ifp c40 hf
        refine lv_bipush (v := (-2 : Int32)) hx hb dX8_told_78 (by decide) ?_
        exact RT _ hf _ _ _ dX8_told_80 (rkI _)
      · have hf := ifn c40 hf
        refine lv_iload_n hx hb dX8_told_55 rfl (lv_at hl 0 rfl) ?_
        refine lv_bipush (v := (6 : Int32)) hx hb dX8_told_56 (by decide) ?_
        refine lv_idiv hx hb dX8_told_58 (by decide) ?_
        refine lv_iload_n hx hb dX8_told_59 rfl (lv_at hl 0 rfl) ?_
        refine lv_bipush (v := (6 : Int32)) hx hb dX8_told_60 (by decide) ?_
        refine lv_irem hx hb dX8_told_62 (by decide) ?_
        refine lv_icmp_eq (tgt := 78) hx hb dX8_told_63 (by decide) (fun c41 => ?_) (fun c41 => ?_)
        · have hf := ifp c41 hf
          refine lv_bipush (v := (-2 : Int32)) hx hb dX8_told_78 (by decide) ?_
          exact RT _ hf _ _ _ dX8_told_80 (rkI _)
        · have hf := ifn c41 hf
          refine lv_aload_n hx hb dX8_told_66 rfl (lv_at hl 1 rfl) ?_
          refine va_get (D := D) (ci := 8) (v := .ref q_t_bad) (C := RX8) (T := TX8) (N := 23) hx hb hts inX8 hown hK hP 0 rfl rfl 4 (by decide) (hts _ lfX8_19) (fun _ h9 => h9) rfl dX8_told_67 ?_
          refine lv_iload_n hx hb dX8_told_70 rfl (lv_at hl 0 rfl) ?_
          obtain ⟨x42, ex42, ix42, hf⟩ := ldIE hf
          refine k_iald hx hb hK hP 3 0 rfl rfl ix42 ex42 dX8_told_71 ?_
          refine lv_bipush (v := (10 : Int32)) hx hb dX8_told_72 (by decide) ?_
          refine lv_iadd hx hb dX8_told_74 ?_
          refine lv_goto (tgt := 80) hx hb dX8_told_75 (by decide) ?_
          exact RT _ hf _ _ _ dX8_told_80 (rkI _)
  · have hf := ifn c1 hf
    refine lv_iload_n hx hb dX8_told_7 rfl (lv_at hl 1 rfl) ?_
    refine lv_sipush (v := (600 : Int32)) hx hb dX8_told_8 (by decide) ?_
    refine lv_sipush (v := (605 : Int32)) hx hb dX8_told_11 (by decide) ?_
    obtain ⟨r43, h44, hf⟩ := bd1E hf
    refine kO_stat hx hb hml hown hts hK hn hP (kX8_in l D G v1 (600 : Int32) (605 : Int32) h44) csX8_61 ⟨Nat.le_of_ble_eq_true rfl, Nat.le_of_ble_eq_true rfl⟩ [] rfl rfl hl.1 rfl (Nat.le_of_ble_eq_true rfl) ⟨Nat.zero_le _, Nat.zero_le _⟩ dX8_told_14 ?_
    refine lv_if_eq (tgt := 33) hx hb dX8_told_17 (by decide) (fun c45 => ?_) (fun c45 => ?_)
    · have hf := ifp c45 hf
      refine lv_bipush (v := (-2 : Int32)) hx hb dX8_told_33 (by decide) ?_
      exact RT _ hf _ _ _ dX8_told_35 (rkI _)
    · have hf := ifn c45 hf
      refine lv_aload_n hx hb dX8_told_20 rfl (lv_at hl 0 rfl) ?_
      refine va_get (D := D) (ci := 8) (v := .ref q_t_likes) (C := RX8) (T := TX8) (N := 23) hx hb hts inX8 hown hK hP 0 rfl rfl 5 (by decide) (hts _ lfX8_22) (fun _ h9 => h9) rfl dX8_told_21 ?_
      refine lv_iload_n hx hb dX8_told_24 rfl (lv_at hl 1 rfl) ?_
      refine lv_sipush (v := (600 : Int32)) hx hb dX8_told_25 (by decide) ?_
      refine lv_isub hx hb dX8_told_28 ?_
      obtain ⟨x46, ex46, ix46, hf⟩ := ldIE hf
      refine k_iald hx hb hK hP 4 0 rfl rfl ix46 ex46 dX8_told_29 ?_
      refine lv_goto (tgt := 35) hx hb dX8_told_30 (by decide) ?_
      exact RT _ hf _ _ _ dX8_told_35 (rkI _)
set_option maxHeartbeats 4000000 in
set_option maxRecDepth 100000 in
theorem kX8_tries (l : Launch) (D : va_G) (G : Nat → ClassId) (fu : Nat) (q_t q_t_book q_t_now q_t_does q_t_bad q_t_likes q_t_sight q_t_pad q_t_then q_t_ahead q_t_most q_t_worth q_t_damp q_t_next q_t_image q_t_isKept : Nat) (t_there : Int32) (t_sights : Int32) (t_signs : Int32) (t_worseAt : Int32) (t_worseWho : Int32) (t_hours : Int32) (t_reason : Int32) (t_acts : Int32) (t_sight : Nat → Int32) (v1 : Int32) {r : Int32} (hf : fX8_tries fu t_sights t_sight v1 = some r) : rO l D G yX8_tries cX8_tries 9 (some .int) 3 105 [.ref q_t, .int v1] [(q_t, .inr (8, [.int t_there, .ref q_t_book, .ref q_t_now, .ref q_t_does, .ref q_t_bad, .ref q_t_likes, .int t_sights, .ref q_t_sight, .int t_signs, .ref q_t_pad, .ref q_t_then, .int t_worseAt, .int t_worseWho, .int t_hours, .ref q_t_ahead, .int t_reason, .int t_acts, .ref q_t_most, .ref q_t_worth, .ref q_t_damp, .ref q_t_next, .ref q_t_image, .ref q_t_isKept])), (q_t_sight, .inl (G 0, 24, .inl t_sight))] (some (.int r)) := by
  refine rO_of (by decide) (Nat.le_of_ble_eq_true rfl) ?_
  intro p e s m args below meth c Q hx hb hml hown hts hK hn hP RET ls hl
  have RT : ∀ (a0_ : Int32), some a0_ = some r → ∀ (pc : Nat) (ls : Array Slot) (ins : Instr), decode cX8_tries pc = .ok (ins, 1) → rk (some .int) (some (.int a0_)) ins → W p l e (kR 3 105) s m args below meth c s.heap [] 0 0 Q (F0 m pc ls [.int a0_]) := by
    intro a0_ hy; obtain rfl := sm1 hy
    exact RET
  have hown : s.vm.findClass RX8 = some m.cls := hown
  have hl : lv_has ls 9 [(0, .ref q_t), (1, .int v1)] := hl
  clear RET
  rw [fX8_tries] at hf
  refine lv_iload_n hx hb dX8_tries_0 rfl (lv_at hl 1 rfl) ?_
  refine lv_iconst (v := (0 : Int32)) hx hb dX8_tries_1 (by decide) ?_
  refine lv_iconst (v := (1 : Int32)) hx hb dX8_tries_2 (by decide) ?_
  obtain ⟨r1, h2, hf⟩ := bd1E hf
  refine kO_stat hx hb hml hown hts hK hn hP (kX8_in l D G v1 (0 : Int32) (1 : Int32) h2) csX8_61 ⟨Nat.le_of_ble_eq_true rfl, Nat.le_of_ble_eq_true rfl⟩ [] rfl rfl hl.1 rfl (Nat.le_of_ble_eq_true rfl) ⟨Nat.zero_le _, Nat.zero_le _⟩ dX8_tries_3 ?_
  refine lv_if_ne (tgt := 12) hx hb dX8_tries_6 (by decide) (fun c3 => ?_) (fun c3 => ?_)
  · have hf := ifn c3 hf
    refine lv_bipush (v := (-6 : Int32)) hx hb dX8_tries_12 (by decide) ?_
    refine lv_istore_n (lv' := [(2, .int (-6 : Int32)), (0, .ref q_t), (1, .int v1)]) hx hb dX8_tries_14 rfl hl (by decide) rfl (fun ls hl => ?_)
    refine lv_ldc (v := (1000000 : Int32)) hx hb hown (hts _ lcX8_133) dX8_tries_15 ?_
    refine lv_istore_n (lv' := [(3, .int (1000000 : Int32)), (2, .int (-6 : Int32)), (0, .ref q_t), (1, .int v1)]) hx hb dX8_tries_17 rfl hl (by decide) rfl (fun ls hl => ?_)
    refine lv_iconst (v := (0 : Int32)) hx hb dX8_tries_18 (by decide) ?_
    refine lv_istore (lv' := [(4, .int (0 : Int32)), (3, .int (1000000 : Int32)), (2, .int (-6 : Int32)), (0, .ref q_t), (1, .int v1)]) hx hb dX8_tries_19 hl (by decide) rfl (fun ls hl => ?_)
    obtain ⟨u415, u416, h420, hf⟩ := bd2E hf
    have E417 : ∀ (z818 : Int32) (z819 : Int32), some (z818, z819) = some (u415, u416) → ∀ ls : Array Slot, lv_has ls 9 [(1, .int v1), (2, .int z818), (3, .int z819)] → W p l e (kR 3 105) s m args below meth c s.heap [] 0 0 Q (F0 m 179 ls []) := by
      intro z818 z819 hy; obtain ⟨rfl, rfl⟩ := sm2 hy
      intro ls hl
      refine lv_iload_n hx hb dX8_tries_179 rfl (lv_at hl 1 rfl) ?_
      refine lv_if_lt (tgt := 187) hx hb dX8_tries_180 (by decide) (fun c820 => ?_) (fun c820 => ?_)
      · have hf := ifp c820 hf
        refine lv_iload_n hx hb dX8_tries_187 rfl (lv_at hl 1 rfl) ?_
        refine lv_goto (tgt := 192) hx hb dX8_tries_188 (by decide) ?_
        exact RT _ hf _ _ _ dX8_tries_192 (rkI _)
      · have hf := ifn c820 hf
        refine lv_iload_n hx hb dX8_tries_183 rfl (lv_at hl 0 rfl) ?_
        refine lv_if_ne (tgt := 191) hx hb dX8_tries_184 (by decide) (fun c821 => ?_) (fun c821 => ?_)
        · have hf := ifn c821 hf
          refine lv_iload_n hx hb dX8_tries_191 rfl (lv_at hl 2 rfl) ?_
          exact RT _ hf _ _ _ dX8_tries_192 (rkI _)
        · have hf := ifp c821 hf
          refine lv_iload_n hx hb dX8_tries_187 rfl (lv_at hl 1 rfl) ?_
          refine lv_goto (tgt := 192) hx hb dX8_tries_188 (by decide) ?_
          exact RT _ hf _ _ _ dX8_tries_192 (rkI _)
    have L418 : ∀ (k : Nat) (w412 : Int32) (w413 : Int32) (w414 : Int32), fX8_tries_21 fu t_sights t_sight k w412 w413 w414 = some (u415, u416) → ∀ ls : Array Slot, lv_has ls 9 [(0, .ref q_t), (1, .int v1), (2, .int w412), (3, .int w413), (4, .int w414)] → W p l e (kR 3 105) s m args below meth c s.heap [] 0 0 Q (F0 m 21 ls []) := by
      intro k; induction k with
      | zero => intro w412 w413 w414 hf; exact nosome hf
      | succ k ih =>
        intro w412 w413 w414 hf; rw [fX8_tries_21] at hf
        intro ls hl
        refine lv_iload hx hb dX8_tries_21 (lv_at hl 4 rfl) ?_
        refine lv_bipush (v := (21 : Int32)) hx hb dX8_tries_23 (by decide) ?_
        refine lv_icmp_ge (tgt := 179) hx hb dX8_tries_25 (by decide) (fun c423 => ?_) (fun c423 => ?_)
        · have hf := ifp c423 hf
          exact E417 _ _ hf ls (lv_sub hl [1, 2, 3] rfl)
        · have hf := ifn c423 hf
          refine lv_iconst (v := (0 : Int32)) hx hb dX8_tries_28 (by decide) ?_
          refine lv_istore (lv' := [(5, .int (0 : Int32)), (0, .ref q_t), (1, .int v1), (2, .int w412), (3, .int w413), (4, .int w414)]) hx hb dX8_tries_29 hl (by decide) rfl (fun ls hl => ?_)
          refine lv_bipush (v := (-5 : Int32)) hx hb dX8_tries_31 (by decide) ?_
          refine lv_istore (lv' := [(6, .int (-5 : Int32)), (5, .int (0 : Int32)), (0, .ref q_t), (1, .int v1), (2, .int w412), (3, .int w413), (4, .int w414)]) hx hb dX8_tries_33 hl (by decide) rfl (fun ls hl => ?_)
          obtain ⟨u610, h614, hf⟩ := bd1E hf
          have E611 : ∀ (z786 : Int32), some z786 = some u610 → ∀ ls : Array Slot, lv_has ls 9 [(0, .ref q_t), (1, .int v1), (2, .int w412), (3, .int w413), (4, .int w414), (5, .int z786)] → W p l e (kR 3 105) s m args below meth c s.heap [] 0 0 Q (F0 m 131 ls []) := by
            intro z786 hy; obtain rfl := sm1 hy
            intro ls hl
            refine lv_iload hx hb dX8_tries_131 (lv_at hl 5 rfl) ?_
            obtain ⟨j794, h817, hf⟩ := bd1E hf
            have E809 : ∀ (z795 : Int32), some z795 = some j794 → ∀ ls : Array Slot, lv_has ls 9 [(0, .ref q_t), (1, .int v1), (2, .int w412), (3, .int w413), (4, .int w414), (5, .int z786)] → W p l e (kR 3 105) s m args below meth c s.heap [] 0 0 Q (F0 m 147 ls [.int z795]) := by
              intro z795 hy; obtain rfl := sm1 hy
              intro ls hl
              refine lv_istore (lv' := [(6, .int z795), (0, .ref q_t), (1, .int v1), (2, .int w412), (3, .int w413), (4, .int w414), (5, .int z786)]) hx hb dX8_tries_147 hl (by decide) rfl (fun ls hl => ?_)
              refine lv_iload hx hb dX8_tries_149 (lv_at hl 0 rfl) ?_
              obtain ⟨j797, h808, hf⟩ := bd1E hf
              have E806 : ∀ (z798 : Int32), some z798 = some j797 → ∀ ls : Array Slot, lv_has ls 9 [(0, .ref q_t), (1, .int v1), (3, .int w413), (4, .int w414), (5, .int z786), (6, .int z795)] → W p l e (kR 3 105) s m args below meth c s.heap [] 0 0 Q (F0 m 160 ls [.int z798]) := by
                intro z798 hy; obtain rfl := sm1 hy
                intro ls hl
                refine lv_istore_n (lv' := [(2, .int z798), (0, .ref q_t), (1, .int v1), (3, .int w413), (4, .int w414), (5, .int z786), (6, .int z795)]) hx hb dX8_tries_160 rfl hl (by decide) rfl (fun ls hl => ?_)
                refine lv_iload hx hb dX8_tries_161 (lv_at hl 6 rfl) ?_
                obtain ⟨j800, h805, hf⟩ := bd1E hf
                have E803 : ∀ (z801 : Int32), some z801 = some j800 → ∀ ls : Array Slot, lv_has ls 9 [(0, .ref q_t), (1, .int v1), (2, .int z798), (4, .int w414)] → W p l e (kR 3 105) s m args below meth c s.heap [] 0 0 Q (F0 m 172 ls [.int z801]) := by
                  intro z801 hy; obtain rfl := sm1 hy
                  intro ls hl
                  refine lv_istore_n (lv' := [(3, .int z801), (0, .ref q_t), (1, .int v1), (2, .int z798), (4, .int w414)]) hx hb dX8_tries_172 rfl hl (by decide) rfl (fun ls hl => ?_)
                  obtain ⟨y802, ey802⟩ : ∃ y : Int32, y = w414 + (1 : Int32) := ⟨_, rfl⟩
                  have hf := nmeU ey802 hf
                  refine lv_iinc (v := y802) (lv' := [(4, .int y802), (3, .int z801), (0, .ref q_t), (1, .int v1), (2, .int z798)]) hx hb dX8_tries_173 hl (k := 4) rfl (by rw [ey802]; rfl) (by decide) rfl (fun ls hl => ?_)
                  refine lv_goto (tgt := 21) hx hb dX8_tries_176 (by decide) ?_
                  exact ih _ _ _ hf ls (lv_sub hl [2, 3, 4, 1, 0] rfl)
                have hf := h805
                refine lv_if_eq (tgt := 171) hx hb dX8_tries_163 (by decide) (fun c804 => ?_) (fun c804 => ?_)
                · have hf := ifp c804 hf
                  refine lv_iload_n hx hb dX8_tries_171 rfl (lv_at hl 3 rfl) ?_
                  exact E803 _ hf ls (lv_sub hl [1, 2, 0, 4] rfl)
                · have hf := ifn c804 hf
                  refine lv_iload hx hb dX8_tries_166 (lv_at hl 5 rfl) ?_
                  refine lv_goto (tgt := 172) hx hb dX8_tries_168 (by decide) ?_
                  exact E803 _ hf ls (lv_sub hl [1, 2, 0, 4] rfl)
              have hf := h808
              refine lv_if_eq (tgt := 159) hx hb dX8_tries_151 (by decide) (fun c807 => ?_) (fun c807 => ?_)
              · have hf := ifp c807 hf
                refine lv_iload_n hx hb dX8_tries_159 rfl (lv_at hl 3 rfl) ?_
                exact E806 _ hf ls (lv_sub hl [1, 2, 4, 5, 6, 0] rfl)
              · have hf := ifn c807 hf
                refine lv_iload hx hb dX8_tries_154 (lv_at hl 5 rfl) ?_
                refine lv_goto (tgt := 160) hx hb dX8_tries_156 (by decide) ?_
                exact E806 _ hf ls (lv_sub hl [1, 2, 4, 5, 6, 0] rfl)
            have hf := h817
            refine lv_if_le (tgt := 146) hx hb dX8_tries_133 (by decide) (fun c810 => ?_) (fun c810 => ?_)
            · have hf := ifp c810 hf
              refine lv_iconst (v := (0 : Int32)) hx hb dX8_tries_146 (by decide) ?_
              exact E809 _ hf ls (lv_sub hl [0, 1, 2, 3, 4, 5] rfl)
            · have hf := ifn c810 hf
              refine lv_iload hx hb dX8_tries_136 (lv_at hl 5 rfl) ?_
              refine lv_iload_n hx hb dX8_tries_138 rfl (lv_at hl 3 rfl) ?_
              obtain ⟨j812, h816, hf⟩ := bd1E hf
              have E814 : ∀ (z813 : Int32), some z813 = some j812 → ∀ ls : Array Slot, lv_has ls 9 [(0, .ref q_t), (1, .int v1), (2, .int w412), (3, .int w413), (4, .int w414), (5, .int z786)] → W p l e (kR 3 105) s m args below meth c s.heap [] 0 0 Q (F0 m 147 ls [.int z813]) := by
                intro z813 hy; obtain rfl := sm1 hy
                intro ls hl
                exact E809 _ hf ls (lv_sub hl [0, 1, 2, 3, 4, 5] rfl)
              have hf := h816
              refine lv_icmp_ge (tgt := 146) hx hb dX8_tries_139 (by decide) (fun c815 => ?_) (fun c815 => ?_)
              · have hf := ifp c815 hf
                refine lv_iconst (v := (0 : Int32)) hx hb dX8_tries_146 (by decide) ?_
                exact E814 _ hf ls (lv_sub hl [0, 1, 2, 3, 4, 5] rfl)
              · have hf := ifn c815 hf
                refine lv_iconst (v := (1 : Int32)) hx hb dX8_tries_142 (by decide) ?_
                refine lv_goto (tgt := 147) hx hb dX8_tries_143 (by decide) ?_
                exact E814 _ hf ls (lv_sub hl [0, 1, 2, 3, 4, 5] rfl)
          have L612 : ∀ (k : Nat) (w608 : Int32) (w609 : Int32), fX8_tries_35 fu t_sights t_sight w414 k w608 w609 = some u610 → ∀ ls : Array Slot, lv_has ls 9 [(0, .ref q_t), (1, .int v1), (2, .int w412), (3, .int w413), (4, .int w414), (5, .int w608), (6, .int w609)] → W p l e (kR 3 105) s m args below meth c s.heap [] 0 0 Q (F0 m 35 ls []) := by
            intro k; induction k with
            | zero => intro w608 w609 hf; exact nosome hf
            | succ k ih =>
              intro w608 w609 hf; rw [fX8_tries_35] at hf
              intro ls hl
              refine lv_iload hx hb dX8_tries_35 (lv_at hl 6 rfl) ?_
              refine lv_bipush (v := (6 : Int32)) hx hb dX8_tries_37 (by decide) ?_
              refine lv_icmp_ge (tgt := 131) hx hb dX8_tries_39 (by decide) (fun c617 => ?_) (fun c617 => ?_)
              · have hf := ifp c617 hf
                exact E611 _ hf ls (lv_sub hl [0, 1, 2, 3, 4, 5] rfl)
              · have hf := ifn c617 hf
                refine lv_iconst (v := (0 : Int32)) hx hb dX8_tries_42 (by decide) ?_
                refine lv_istore (lv' := [(7, .int (0 : Int32)), (0, .ref q_t), (1, .int v1), (2, .int w412), (3, .int w413), (4, .int w414), (5, .int w608), (6, .int w609)]) hx hb dX8_tries_43 hl (by decide) rfl (fun ls hl => ?_)
                refine lv_bipush (v := (-5 : Int32)) hx hb dX8_tries_45 (by decide) ?_
                refine lv_istore (lv' := [(8, .int (-5 : Int32)), (7, .int (0 : Int32)), (0, .ref q_t), (1, .int v1), (2, .int w412), (3, .int w413), (4, .int w414), (5, .int w608), (6, .int w609)]) hx hb dX8_tries_47 hl (by decide) rfl (fun ls hl => ?_)
                obtain ⟨u704, h708, hf⟩ := bd1E hf
                have E705 : ∀ (z778 : Int32), some z778 = some u704 → ∀ ls : Array Slot, lv_has ls 9 [(0, .ref q_t), (1, .int v1), (2, .int w412), (3, .int w413), (4, .int w414), (5, .int w608), (6, .int w609), (7, .int z778)] → W p l e (kR 3 105) s m args below meth c s.heap [] 0 0 Q (F0 m 109 ls []) := by
                  intro z778 hy; obtain rfl := sm1 hy
                  intro ls hl
                  refine lv_iload hx hb dX8_tries_109 (lv_at hl 7 rfl) ?_
                  refine lv_iload hx hb dX8_tries_111 (lv_at hl 5 rfl) ?_
                  obtain ⟨j780, h785, hf⟩ := bd1E hf
                  have E783 : ∀ (z781 : Int32), some z781 = some j780 → ∀ ls : Array Slot, lv_has ls 9 [(0, .ref q_t), (1, .int v1), (2, .int w412), (3, .int w413), (4, .int w414), (6, .int w609)] → W p l e (kR 3 105) s m args below meth c s.heap [] 0 0 Q (F0 m 123 ls [.int z781]) := by
                    intro z781 hy; obtain rfl := sm1 hy
                    intro ls hl
                    refine lv_istore (lv' := [(5, .int z781), (0, .ref q_t), (1, .int v1), (2, .int w412), (3, .int w413), (4, .int w414), (6, .int w609)]) hx hb dX8_tries_123 hl (by decide) rfl (fun ls hl => ?_)
                    obtain ⟨y782, ey782⟩ : ∃ y : Int32, y = w609 + (1 : Int32) := ⟨_, rfl⟩
                    have hf := nmeU ey782 hf
                    refine lv_iinc (v := y782) (lv' := [(6, .int y782), (5, .int z781), (0, .ref q_t), (1, .int v1), (2, .int w412), (3, .int w413), (4, .int w414)]) hx hb dX8_tries_125 hl (k := 6) rfl (by rw [ey782]; rfl) (by decide) rfl (fun ls hl => ?_)
                    refine lv_goto (tgt := 35) hx hb dX8_tries_128 (by decide) ?_
                    exact ih _ _ hf ls (lv_sub hl [2, 3, 4, 5, 6, 1, 0] rfl)
                  have hf := h785
                  refine lv_icmp_le (tgt := 121) hx hb dX8_tries_113 (by decide) (fun c784 => ?_) (fun c784 => ?_)
                  · have hf := ifp c784 hf
                    refine lv_iload hx hb dX8_tries_121 (lv_at hl 5 rfl) ?_
                    exact E783 _ hf ls (lv_sub hl [0, 1, 2, 3, 4, 6] rfl)
                  · have hf := ifn c784 hf
                    refine lv_iload hx hb dX8_tries_116 (lv_at hl 7 rfl) ?_
                    refine lv_goto (tgt := 123) hx hb dX8_tries_118 (by decide) ?_
                    exact E783 _ hf ls (lv_sub hl [0, 1, 2, 3, 4, 6] rfl)
                have L706 : ∀ (k : Nat) (w702 : Int32) (w703 : Int32), fX8_tries_49 fu t_sights t_sight w609 w414 k w702 w703 = some u704 → ∀ ls : Array Slot, lv_has ls 9 [(0, .ref q_t), (1, .int v1), (2, .int w412), (3, .int w413), (4, .int w414), (5, .int w608), (6, .int w609), (7, .int w702), (8, .int w703)] → W p l e (kR 3 105) s m args below meth c s.heap [] 0 0 Q (F0 m 49 ls []) := by
                  intro k; induction k with
                  | zero => intro w702 w703 hf; exact nosome hf
                  | succ k ih =>
                    intro w702 w703 hf; rw [fX8_tries_49] at hf
                    intro ls hl
                    refine lv_iload hx hb dX8_tries_49 (lv_at hl 8 rfl) ?_
                    refine lv_bipush (v := (6 : Int32)) hx hb dX8_tries_51 (by decide) ?_
                    refine lv_icmp_ge (tgt := 109) hx hb dX8_tries_53 (by decide) (fun c711 => ?_) (fun c711 => ?_)
                    · have hf := ifp c711 hf
                      exact E705 _ hf ls (lv_sub hl [0, 1, 2, 3, 4, 5, 6, 7] rfl)
                    · have hf := ifn c711 hf
                      refine lv_iload hx hb dX8_tries_56 (lv_at hl 7 rfl) ?_
                      refine lv_aload_n hx hb dX8_tries_58 rfl (lv_at hl 0 rfl) ?_
                      refine lv_iload hx hb dX8_tries_59 (lv_at hl 6 rfl) ?_
                      obtain ⟨r712, h713, hf⟩ := bd1E hf
                      refine kO_virt hx hb hml hown hts hK hn hP (kX8_fits l D G fu q_t q_t_book q_t_now q_t_does q_t_bad q_t_likes q_t_sight q_t_pad q_t_then q_t_ahead q_t_most q_t_worth q_t_damp q_t_next q_t_image q_t_isKept t_there t_sights t_signs t_worseAt t_worseWho t_hours t_reason t_acts t_sight w609 h713) cvX8_153 ⟨Nat.le_of_ble_eq_true rfl, Nat.le_of_ble_eq_true rfl⟩ [0, 1] rfl 0 rfl rfl rfl hl.1 rfl (Nat.le_of_ble_eq_true rfl) ⟨Nat.zero_le _, Nat.zero_le _⟩ dX8_tries_61 ?_
                      obtain ⟨j743, h777, hf⟩ := bd1E hf
                      have E747 : ∀ (z744 : Int32), some z744 = some j743 → ∀ ls : Array Slot, lv_has ls 9 [(0, .ref q_t), (1, .int v1), (2, .int w412), (3, .int w413), (4, .int w414), (5, .int w608), (6, .int w609), (8, .int w703)] → W p l e (kR 3 105) s m args below meth c s.heap [] 0 0 Q (F0 m 100 ls [.int z744, .int w702]) := by
                        intro z744 hy; obtain rfl := sm1 hy
                        intro ls hl
                        refine lv_iadd hx hb dX8_tries_100 ?_
                        refine lv_topi (fun y745 ey745 => ?_)
                        have hf := nmeU ey745 hf
                        refine lv_istore (lv' := [(7, .int y745), (0, .ref q_t), (1, .int v1), (2, .int w412), (3, .int w413), (4, .int w414), (5, .int w608), (6, .int w609), (8, .int w703)]) hx hb dX8_tries_101 hl (by decide) rfl (fun ls hl => ?_)
                        obtain ⟨y746, ey746⟩ : ∃ y : Int32, y = w703 + (1 : Int32) := ⟨_, rfl⟩
                        have hf := nmeU ey746 hf
                        refine lv_iinc (v := y746) (lv' := [(8, .int y746), (7, .int y745), (0, .ref q_t), (1, .int v1), (2, .int w412), (3, .int w413), (4, .int w414), (5, .int w608), (6, .int w609)]) hx hb dX8_tries_103 hl (k := 8) rfl (by rw [ey746]; rfl) (by decide) rfl (fun ls hl => ?_)
                        refine lv_goto (tgt := 49) hx hb dX8_tries_106 (by decide) ?_
                        exact ih _ _ hf ls (lv_sub hl [2, 3, 4, 5, 6, 7, 8, 1, 0] rfl)
                      have hf := h777
                      refine lv_if_eq (tgt := 99) hx hb dX8_tries_64 (by decide) (fun c748 => ?_) (fun c748 => ?_)
                      · have hf := ifp c748 hf
                        refine lv_iconst (v := (0 : Int32)) hx hb dX8_tries_99 (by decide) ?_
                        exact E747 _ hf ls (lv_sub hl [0, 1, 2, 3, 4, 5, 6, 8] rfl)
                      · have hf := ifn c748 hf
                        refine lv_aload_n hx hb dX8_tries_67 rfl (lv_at hl 0 rfl) ?_
                        refine lv_iload hx hb dX8_tries_68 (lv_at hl 8 rfl) ?_
                        obtain ⟨r749, h750, hf⟩ := bd1E hf
                        refine kO_virt hx hb hml hown hts hK hn hP (kX8_fits l D G fu q_t q_t_book q_t_now q_t_does q_t_bad q_t_likes q_t_sight q_t_pad q_t_then q_t_ahead q_t_most q_t_worth q_t_damp q_t_next q_t_image q_t_isKept t_there t_sights t_signs t_worseAt t_worseWho t_hours t_reason t_acts t_sight w703 h750) cvX8_153 ⟨Nat.le_of_ble_eq_true rfl, Nat.le_of_ble_eq_true rfl⟩ [0, 1] rfl 0 rfl rfl rfl hl.1 rfl (Nat.le_of_ble_eq_true rfl) ⟨Nat.zero_le _, Nat.zero_le _⟩ dX8_tries_70 ?_
                        obtain ⟨j762, h776, hf⟩ := bd1E hf
                        have E764 : ∀ (z763 : Int32), some z763 = some j762 → ∀ ls : Array Slot, lv_has ls 9 [(0, .ref q_t), (1, .int v1), (2, .int w412), (3, .int w413), (4, .int w414), (5, .int w608), (6, .int w609), (8, .int w703)] → W p l e (kR 3 105) s m args below meth c s.heap [] 0 0 Q (F0 m 100 ls [.int z763, .int w702]) := by
                          intro z763 hy; obtain rfl := sm1 hy
                          intro ls hl
                          exact E747 _ hf ls (lv_sub hl [0, 1, 2, 3, 4, 5, 6, 7] rfl)
                        have hf := h776
                        refine lv_if_eq (tgt := 99) hx hb dX8_tries_73 (by decide) (fun c765 => ?_) (fun c765 => ?_)
                        · have hf := ifp c765 hf
                          refine lv_iconst (v := (0 : Int32)) hx hb dX8_tries_99 (by decide) ?_
                          exact E764 _ hf ls (lv_sub hl [0, 1, 2, 3, 4, 5, 6, 8] rfl)
                        · have hf := ifn c765 hf
                          refine lv_iload hx hb dX8_tries_76 (lv_at hl 4 rfl) ?_
                          refine lv_iload hx hb dX8_tries_78 (lv_at hl 6 rfl) ?_
                          refine lv_iadd hx hb dX8_tries_80 ?_
                          obtain ⟨r766, h767, hf⟩ := bd1E hf
                          refine kO_stat hx hb hml hown hts hK hn hP (kX8_clip l D G (w414 + w609) h767) csX8_87 ⟨Nat.le_of_ble_eq_true rfl, Nat.le_of_ble_eq_true rfl⟩ [] rfl rfl hl.1 rfl (Nat.le_of_ble_eq_true rfl) ⟨Nat.zero_le _, Nat.zero_le _⟩ dX8_tries_81 ?_
                          refine lv_iload hx hb dX8_tries_84 (lv_at hl 4 rfl) ?_
                          refine lv_iload hx hb dX8_tries_86 (lv_at hl 8 rfl) ?_
                          refine lv_iadd hx hb dX8_tries_88 ?_
                          obtain ⟨r768, h769, hf⟩ := bd1E hf
                          refine kO_stat hx hb hml hown hts hK hn hP (kX8_clip l D G (w414 + w703) h769) csX8_87 ⟨Nat.le_of_ble_eq_true rfl, Nat.le_of_ble_eq_true rfl⟩ [] rfl rfl hl.1 rfl (Nat.le_of_ble_eq_true rfl) ⟨Nat.zero_le _, Nat.zero_le _⟩ dX8_tries_89 ?_
                          obtain ⟨j771, h775, hf⟩ := bd1E hf
                          have E773 : ∀ (z772 : Int32), some z772 = some j771 → ∀ ls : Array Slot, lv_has ls 9 [(0, .ref q_t), (1, .int v1), (2, .int w412), (3, .int w413), (4, .int w414), (5, .int w608), (6, .int w609), (8, .int w703)] → W p l e (kR 3 105) s m args below meth c s.heap [] 0 0 Q (F0 m 100 ls [.int z772, .int w702]) := by
                            intro z772 hy; obtain rfl := sm1 hy
                            intro ls hl
                            exact E764 _ hf ls (lv_sub hl [0, 1, 2, 3, 4, 5, 6, 7] rfl)
                          have hf := h775
                          refine lv_icmp_ne (tgt := 99) hx hb dX8_tries_92 (by decide) (fun c774 => ?_) (fun c774 => ?_)
                          · have hf := ifn c774 hf
                            refine lv_iconst (v := (0 : Int32)) hx hb dX8_tries_99 (by decide) ?_
                            exact E773 _ hf ls (lv_sub hl [0, 1, 2, 3, 4, 5, 6, 8] rfl)
                          · have hf := ifp c774 hf
                            refine lv_iconst (v := (1 : Int32)) hx hb dX8_tries_95 (by decide) ?_
                            refine lv_goto (tgt := 100) hx hb dX8_tries_96 (by decide) ?_
                            exact E773 _ hf ls (lv_sub hl [0, 1, 2, 3, 4, 5, 6, 8] rfl)
                exact L706 fu (0 : Int32) (-5 : Int32) h708 ls (lv_sub hl [2, 3, 4, 5, 6, 7, 8, 1, 0] rfl)
          exact L612 fu (0 : Int32) (-5 : Int32) h614 ls (lv_sub hl [2, 3, 4, 5, 6, 1, 0] rfl)
    exact L418 fu (-6 : Int32) (1000000 : Int32) (0 : Int32) h420 ls (lv_sub hl [3, 4, 2, 1, 0] rfl)
  · have hf := ifp c3 hf
    refine lv_bipush (v := (-2 : Int32)) hx hb dX8_tries_9 (by decide) ?_
    exact RT _ hf _ _ _ dX8_tries_11 (rkI _)
set_option maxHeartbeats 4000000 in
set_option maxRecDepth 100000 in
theorem kX8_ways (l : Launch) (D : va_G) (G : Nat → ClassId) (fu : Nat) (q_t q_t_book q_t_now q_t_does q_t_bad q_t_likes q_t_sight q_t_pad q_t_then q_t_ahead q_t_most q_t_worth q_t_damp q_t_next q_t_image q_t_isKept : Nat) (t_there : Int32) (t_sights : Int32) (t_signs : Int32) (t_worseAt : Int32) (t_worseWho : Int32) (t_hours : Int32) (t_reason : Int32) (t_acts : Int32) (v1 : Int32) (v2 : Int32) (v3 : Int32) {r : Int32} (hf : fX8_ways fu t_there v1 v2 v3 = some r) : rO l D G yX8_ways cX8_ways 4 (some .int) 3 112 [.ref q_t, .int v1, .int v2, .int v3] [(q_t, .inr (8, [.int t_there, .ref q_t_book, .ref q_t_now, .ref q_t_does, .ref q_t_bad, .ref q_t_likes, .int t_sights, .ref q_t_sight, .int t_signs, .ref q_t_pad, .ref q_t_then, .int t_worseAt, .int t_worseWho, .int t_hours, .ref q_t_ahead, .int t_reason, .int t_acts, .ref q_t_most, .ref q_t_worth, .ref q_t_damp, .ref q_t_next, .ref q_t_image, .ref q_t_isKept]))] (some (.int r)) := by
  refine rO_of (by decide) (Nat.le_of_ble_eq_true rfl) ?_
  intro p e s m args below meth c Q hx hb hml hown hts hK hn hP RET ls hl
  have RT : ∀ (a0_ : Int32), some a0_ = some r → ∀ (pc : Nat) (ls : Array Slot) (ins : Instr), decode cX8_ways pc = .ok (ins, 1) → rk (some .int) (some (.int a0_)) ins → W p l e (kR 3 112) s m args below meth c s.heap [] 0 0 Q (F0 m pc ls [.int a0_]) := by
    intro a0_ hy; obtain rfl := sm1 hy
    exact RET
  have hown : s.vm.findClass RX8 = some m.cls := hown
  have hl : lv_has ls 4 [(0, .ref q_t), (1, .int v1), (2, .int v2), (3, .int v3)] := hl
  clear RET
  rw [fX8_ways] at hf
  refine lv_iload_n hx hb dX8_ways_0 rfl (lv_at hl 1 rfl) ?_
  obtain ⟨r1, h2, hf⟩ := bd1E hf
  refine kO_stat hx hb hml hown hts hK hn hP (kX8_isPairs l D G v1 h2) csX8_140 ⟨Nat.le_of_ble_eq_true rfl, Nat.le_of_ble_eq_true rfl⟩ [] rfl rfl hl.1 rfl (Nat.le_of_ble_eq_true rfl) ⟨Nat.zero_le _, Nat.zero_le _⟩ dX8_ways_1 ?_
  refine lv_if_eq (tgt := 33) hx hb dX8_ways_4 (by decide) (fun c3 => ?_) (fun c3 => ?_)
  · have hf := ifp c3 hf
    refine lv_bipush (v := (-2 : Int32)) hx hb dX8_ways_33 (by decide) ?_
    exact RT _ hf _ _ _ dX8_ways_35 (rkI _)
  · have hf := ifn c3 hf
    refine lv_iload_n hx hb dX8_ways_7 rfl (lv_at hl 2 rfl) ?_
    obtain ⟨r4, h5, hf⟩ := bd1E hf
    refine kO_stat hx hb hml hown hts hK hn hP (kX8_isPairs l D G v2 h5) csX8_140 ⟨Nat.le_of_ble_eq_true rfl, Nat.le_of_ble_eq_true rfl⟩ [] rfl rfl hl.1 rfl (Nat.le_of_ble_eq_true rfl) ⟨Nat.zero_le _, Nat.zero_le _⟩ dX8_ways_8 ?_
    refine lv_if_eq (tgt := 33) hx hb dX8_ways_11 (by decide) (fun c6 => ?_) (fun c6 => ?_)
    · have hf := ifp c6 hf
      refine lv_bipush (v := (-2 : Int32)) hx hb dX8_ways_33 (by decide) ?_
      exact RT _ hf _ _ _ dX8_ways_35 (rkI _)
    · have hf := ifn c6 hf
      refine lv_iload_n hx hb dX8_ways_14 rfl (lv_at hl 3 rfl) ?_
      refine lv_iconst (v := (1 : Int32)) hx hb dX8_ways_15 (by decide) ?_
      refine lv_iconst (v := (4 : Int32)) hx hb dX8_ways_16 (by decide) ?_
      obtain ⟨r7, h8, hf⟩ := bd1E hf
      refine kO_stat hx hb hml hown hts hK hn hP (kX8_in l D G v3 (1 : Int32) (4 : Int32) h8) csX8_61 ⟨Nat.le_of_ble_eq_true rfl, Nat.le_of_ble_eq_true rfl⟩ [] rfl rfl hl.1 rfl (Nat.le_of_ble_eq_true rfl) ⟨Nat.zero_le _, Nat.zero_le _⟩ dX8_ways_17 ?_
      refine lv_if_eq (tgt := 33) hx hb dX8_ways_20 (by decide) (fun c9 => ?_) (fun c9 => ?_)
      · have hf := ifp c9 hf
        refine lv_bipush (v := (-2 : Int32)) hx hb dX8_ways_33 (by decide) ?_
        exact RT _ hf _ _ _ dX8_ways_35 (rkI _)
      · have hf := ifn c9 hf
        refine lv_aload_n hx hb dX8_ways_23 rfl (lv_at hl 0 rfl) ?_
        refine lv_iload_n hx hb dX8_ways_24 rfl (lv_at hl 1 rfl) ?_
        refine lv_iload_n hx hb dX8_ways_25 rfl (lv_at hl 2 rfl) ?_
        refine lv_iload_n hx hb dX8_ways_26 rfl (lv_at hl 3 rfl) ?_
        obtain ⟨r10, h11, hf⟩ := bd1E hf
        refine kO_virt hx hb hml hown hts hK hn hP (kX8_waysIn l D G fu q_t q_t_book q_t_now q_t_does q_t_bad q_t_likes q_t_sight q_t_pad q_t_then q_t_ahead q_t_most q_t_worth q_t_damp q_t_next q_t_image q_t_isKept t_there t_sights t_signs t_worseAt t_worseWho t_hours t_reason t_acts v1 v2 v3 h11) cvX8_143 ⟨Nat.le_of_ble_eq_true rfl, Nat.le_of_ble_eq_true rfl⟩ [0] rfl 0 rfl rfl rfl hl.1 rfl (Nat.le_of_ble_eq_true rfl) ⟨Nat.zero_le _, Nat.zero_le _⟩ dX8_ways_27 ?_
        refine lv_goto (tgt := 35) hx hb dX8_ways_30 (by decide) ?_
        exact RT _ hf _ _ _ dX8_ways_35 (rkI _)
set_option maxHeartbeats 4000000 in
set_option maxRecDepth 100000 in
theorem kX8_week (l : Launch) (D : va_G) (G : Nat → ClassId) (fu : Nat) (q_t q_t_book q_t_now q_t_does q_t_bad q_t_likes q_t_sight q_t_pad q_t_then q_t_ahead q_t_most q_t_worth q_t_damp q_t_next q_t_image q_t_isKept : Nat) (t_there : Int32) (t_sights : Int32) (t_signs : Int32) (t_worseAt : Int32) (t_worseWho : Int32) (t_hours : Int32) (t_reason : Int32) (t_acts : Int32) (t_book : Nat → Int32) (t_now : Nat → Int32) (t_does : Nat → Int32) (t_bad : Nat → Int32) (t_then : Nat → Int32) (t_ahead : Nat → Int32) (v1 : Int32) (v2 : Int32) (v3 : Int32) {r : Int32} {o_t_worseAt : Int32} {o_t_worseWho : Int32} {o_t_hours : Int32} {o_t_now : Nat → Int32} {o_t_then : Nat → Int32} {o_t_ahead : Nat → Int32} (hf : fX8_week fu t_there t_worseAt t_worseWho t_hours t_book t_now t_does t_bad t_then t_ahead v1 v2 v3 = some (r, o_t_worseAt, o_t_worseWho, o_t_hours, o_t_now, o_t_then, o_t_ahead)) : rW l D G yX8_week cX8_week 8 (some .int) 4 127 [.ref q_t, .int v1, .int v2, .int v3] [(q_t, .inr (8, [.int t_there, .ref q_t_book, .ref q_t_now, .ref q_t_does, .ref q_t_bad, .ref q_t_likes, .int t_sights, .ref q_t_sight, .int t_signs, .ref q_t_pad, .ref q_t_then, .int t_worseAt, .int t_worseWho, .int t_hours, .ref q_t_ahead, .int t_reason, .int t_acts, .ref q_t_most, .ref q_t_worth, .ref q_t_damp, .ref q_t_next, .ref q_t_image, .ref q_t_isKept])), (q_t_book, .inl (G 0, 26, .inl t_book)), (q_t_now, .inl (G 0, 26, .inl t_now)), (q_t_does, .inl (G 0, 12, .inl t_does)), (q_t_bad, .inl (G 0, 36, .inl t_bad)), (q_t_then, .inl (G 0, 18, .inl t_then)), (q_t_ahead, .inl (G 0, 6, .inl t_ahead))] [(q_t, .inr (8, [.int t_there, .ref q_t_book, .ref q_t_now, .ref q_t_does, .ref q_t_bad, .ref q_t_likes, .int t_sights, .ref q_t_sight, .int t_signs, .ref q_t_pad, .ref q_t_then, .int o_t_worseAt, .int o_t_worseWho, .int o_t_hours, .ref q_t_ahead, .int t_reason, .int t_acts, .ref q_t_most, .ref q_t_worth, .ref q_t_damp, .ref q_t_next, .ref q_t_image, .ref q_t_isKept])), (q_t_book, .inl (G 0, 26, .inl t_book)), (q_t_now, .inl (G 0, 26, .inl o_t_now)), (q_t_does, .inl (G 0, 12, .inl t_does)), (q_t_bad, .inl (G 0, 36, .inl t_bad)), (q_t_then, .inl (G 0, 18, .inl o_t_then)), (q_t_ahead, .inl (G 0, 6, .inl o_t_ahead))] (some (.int r)) := by
  refine rW_of (by decide) (Nat.le_of_ble_eq_true rfl) ?_
  intro p e s m args below meth c Q A hx hb hml hown hts hK hn hA RET H locs hP hD hS ls hl
  have RT : ∀ (a0_ : Int32) (a1_ : Int32) (a2_ : Int32) (a3_ : Int32) (a4_ : Nat → Int32) (a5_ : Nat → Int32) (a6_ : Nat → Int32), some (a0_, a1_, a2_, a3_, a4_, a5_, a6_) = some (r, o_t_worseAt, o_t_worseWho, o_t_hours, o_t_now, o_t_then, o_t_ahead) → ∀ (pc : Nat) (ls : Array Slot) (ins : Instr) (H : Heap) (locs : List Loc), decode cX8_week pc = .ok (ins, 1) → rk (some .int) (some (.int a0_)) ins → va_P D vwCl [(q_t, .inr (8, [.int t_there, .ref q_t_book, .ref q_t_now, .ref q_t_does, .ref q_t_bad, .ref q_t_likes, .int t_sights, .ref q_t_sight, .int t_signs, .ref q_t_pad, .ref q_t_then, .int a1_, .int a2_, .int a3_, .ref q_t_ahead, .int t_reason, .int t_acts, .ref q_t_most, .ref q_t_worth, .ref q_t_damp, .ref q_t_next, .ref q_t_image, .ref q_t_isKept])), (q_t_book, .inl (G 0, 26, .inl t_book)), (q_t_now, .inl (G 0, 26, .inl a4_)), (q_t_does, .inl (G 0, 12, .inl t_does)), (q_t_bad, .inl (G 0, 36, .inl t_bad)), (q_t_then, .inl (G 0, 18, .inl a5_)), (q_t_ahead, .inl (G 0, 6, .inl a6_))] H → va_D A [(q_t, .inr (8, [.int t_there, .ref q_t_book, .ref q_t_now, .ref q_t_does, .ref q_t_bad, .ref q_t_likes, .int t_sights, .ref q_t_sight, .int t_signs, .ref q_t_pad, .ref q_t_then, .int a1_, .int a2_, .int a3_, .ref q_t_ahead, .int t_reason, .int t_acts, .ref q_t_most, .ref q_t_worth, .ref q_t_damp, .ref q_t_next, .ref q_t_image, .ref q_t_isKept])), (q_t_book, .inl (G 0, 26, .inl t_book)), (q_t_now, .inl (G 0, 26, .inl a4_)), (q_t_does, .inl (G 0, 12, .inl t_does)), (q_t_bad, .inl (G 0, 36, .inl t_bad)), (q_t_then, .inl (G 0, 18, .inl a5_)), (q_t_ahead, .inl (G 0, 6, .inl a6_))] → va_S A s.heap H locs → W p l e (kR 4 127) s m args below meth c H locs 0 0 Q (F0 m pc ls [.int a0_]) := by
    intro a0_ a1_ a2_ a3_ a4_ a5_ a6_ hy; obtain ⟨rfl, rfl, rfl, rfl, rfl, rfl, rfl⟩ := sm7 hy
    exact RET
  have hown : s.vm.findClass RX8 = some m.cls := hown
  have hl : lv_has ls 8 [(0, .ref q_t), (1, .int v1), (2, .int v2), (3, .int v3)] := hl
  clear RET
  rw [fX8_week] at hf
  refine lv_iload_n hx hb dX8_week_0 rfl (lv_at hl 1 rfl) ?_
  refine lv_iconst (v := (0 : Int32)) hx hb dX8_week_1 (by decide) ?_
  refine lv_sipush (v := (9999 : Int32)) hx hb dX8_week_2 (by decide) ?_
  obtain ⟨r1, h2, hf⟩ := bd1E hf
  refine kO_stat hx hb hml hown hts hK hn hP (kX8_in l D G v1 (0 : Int32) (9999 : Int32) h2) csX8_61 ⟨Nat.le_of_ble_eq_true rfl, Nat.le_of_ble_eq_true rfl⟩ [] rfl rfl hl.1 rfl (Nat.le_of_ble_eq_true rfl) ⟨Nat.zero_le _, Nat.zero_le _⟩ dX8_week_5 ?_
  refine lv_if_eq (tgt := 30) hx hb dX8_week_8 (by decide) (fun c3 => ?_) (fun c3 => ?_)
  · have hf := ifp c3 hf
    refine lv_bipush (v := (-2 : Int32)) hx hb dX8_week_30 (by decide) ?_
    exact RT _ _ _ _ _ _ _ hf _ _ _ H locs dX8_week_32 (rkI _) hP hD hS
  · have hf := ifn c3 hf
    refine lv_iload_n hx hb dX8_week_11 rfl (lv_at hl 2 rfl) ?_
    refine lv_iconst (v := (1 : Int32)) hx hb dX8_week_12 (by decide) ?_
    refine lv_bipush (v := (99 : Int32)) hx hb dX8_week_13 (by decide) ?_
    obtain ⟨r4, h5, hf⟩ := bd1E hf
    refine kO_stat hx hb hml hown hts hK hn hP (kX8_in l D G v2 (1 : Int32) (99 : Int32) h5) csX8_61 ⟨Nat.le_of_ble_eq_true rfl, Nat.le_of_ble_eq_true rfl⟩ [] rfl rfl hl.1 rfl (Nat.le_of_ble_eq_true rfl) ⟨Nat.zero_le _, Nat.zero_le _⟩ dX8_week_15 ?_
    refine lv_if_eq (tgt := 30) hx hb dX8_week_18 (by decide) (fun c6 => ?_) (fun c6 => ?_)
    · have hf := ifp c6 hf
      refine lv_bipush (v := (-2 : Int32)) hx hb dX8_week_30 (by decide) ?_
      exact RT _ _ _ _ _ _ _ hf _ _ _ H locs dX8_week_32 (rkI _) hP hD hS
    · have hf := ifn c6 hf
      refine lv_iload_n hx hb dX8_week_21 rfl (lv_at hl 3 rfl) ?_
      refine lv_iconst (v := (0 : Int32)) hx hb dX8_week_22 (by decide) ?_
      refine lv_iconst (v := (2 : Int32)) hx hb dX8_week_23 (by decide) ?_
      obtain ⟨r7, h8, hf⟩ := bd1E hf
      refine kO_stat hx hb hml hown hts hK hn hP (kX8_in l D G v3 (0 : Int32) (2 : Int32) h8) csX8_61 ⟨Nat.le_of_ble_eq_true rfl, Nat.le_of_ble_eq_true rfl⟩ [] rfl rfl hl.1 rfl (Nat.le_of_ble_eq_true rfl) ⟨Nat.zero_le _, Nat.zero_le _⟩ dX8_week_24 ?_
      refine lv_if_ne (tgt := 33) hx hb dX8_week_27 (by decide) (fun c9 => ?_) (fun c9 => ?_)
      · have hf := ifn c9 hf
        refine lv_aload_n hx hb dX8_week_33 rfl (lv_at hl 0 rfl) ?_
        obtain ⟨o10, o11, o12, o13, h14, hf⟩ := bd4E hf
        refine kW_virt0 hx hb hml hown hts hK hn hA hP hD hS (kX8_begin l D G fu q_t q_t_book q_t_now q_t_does q_t_bad q_t_likes q_t_sight q_t_pad q_t_then q_t_ahead q_t_most q_t_worth q_t_damp q_t_next q_t_image q_t_isKept t_there t_sights t_signs t_worseAt t_worseWho t_hours t_reason t_acts t_book t_now h14) cvX8_108 ⟨Nat.le_of_ble_eq_true rfl, Nat.le_of_ble_eq_true rfl⟩ [0, 1, 2] rfl rfl [true, true, true] rfl (w3 := [(q_t, .inr (8, [.int t_there, .ref q_t_book, .ref q_t_now, .ref q_t_does, .ref q_t_bad, .ref q_t_likes, .int t_sights, .ref q_t_sight, .int t_signs, .ref q_t_pad, .ref q_t_then, .int o10, .int o11, .int o12, .ref q_t_ahead, .int t_reason, .int t_acts, .ref q_t_most, .ref q_t_worth, .ref q_t_damp, .ref q_t_next, .ref q_t_image, .ref q_t_isKept])), (q_t_book, .inl (G 0, 26, .inl t_book)), (q_t_now, .inl (G 0, 26, .inl o13))]) [0, 1, 2] rfl rfl 0 rfl rfl rfl hl.1 rfl (Nat.le_of_ble_eq_true rfl) ⟨Nat.zero_le _, Nat.zero_le _⟩ dX8_week_34 (fun H locs hP hD hS => ?_)
        have hP : va_P D vwCl [(q_t, .inr (8, [.int t_there, .ref q_t_book, .ref q_t_now, .ref q_t_does, .ref q_t_bad, .ref q_t_likes, .int t_sights, .ref q_t_sight, .int t_signs, .ref q_t_pad, .ref q_t_then, .int o10, .int o11, .int o12, .ref q_t_ahead, .int t_reason, .int t_acts, .ref q_t_most, .ref q_t_worth, .ref q_t_damp, .ref q_t_next, .ref q_t_image, .ref q_t_isKept])), (q_t_book, .inl (G 0, 26, .inl t_book)), (q_t_now, .inl (G 0, 26, .inl o13)), (q_t_does, .inl (G 0, 12, .inl t_does)), (q_t_bad, .inl (G 0, 36, .inl t_bad)), (q_t_then, .inl (G 0, 18, .inl t_then)), (q_t_ahead, .inl (G 0, 6, .inl t_ahead))] H := hP
        have hD : va_D A [(q_t, .inr (8, [.int t_there, .ref q_t_book, .ref q_t_now, .ref q_t_does, .ref q_t_bad, .ref q_t_likes, .int t_sights, .ref q_t_sight, .int t_signs, .ref q_t_pad, .ref q_t_then, .int o10, .int o11, .int o12, .ref q_t_ahead, .int t_reason, .int t_acts, .ref q_t_most, .ref q_t_worth, .ref q_t_damp, .ref q_t_next, .ref q_t_image, .ref q_t_isKept])), (q_t_book, .inl (G 0, 26, .inl t_book)), (q_t_now, .inl (G 0, 26, .inl o13)), (q_t_does, .inl (G 0, 12, .inl t_does)), (q_t_bad, .inl (G 0, 36, .inl t_bad)), (q_t_then, .inl (G 0, 18, .inl t_then)), (q_t_ahead, .inl (G 0, 6, .inl t_ahead))] := hD
        refine lv_iload_n hx hb dX8_week_37 rfl (lv_at hl 1 rfl) ?_
        refine lv_istore (lv' := [(4, .int v1), (0, .ref q_t), (1, .int v1), (2, .int v2), (3, .int v3)]) hx hb dX8_week_38 hl (by decide) rfl (fun ls hl => ?_)
        refine lv_iconst (v := (0 : Int32)) hx hb dX8_week_40 (by decide) ?_
        refine lv_istore (lv' := [(5, .int (0 : Int32)), (4, .int v1), (0, .ref q_t), (1, .int v1), (2, .int v2), (3, .int v3)]) hx hb dX8_week_41 hl (by decide) rfl (fun ls hl => ?_)
        obtain ⟨u114, u115, u116, u117, u118, u119, h123, hf⟩ := bd6E hf
        have E120 : ∀ (z199 : Int32) (z200 : Int32) (z201 : Int32) (z202 : Nat → Int32) (z203 : Nat → Int32) (z204 : Nat → Int32), some (z199, z200, z201, z202, z203, z204) = some (u114, u115, u116, u117, u118, u119) → ∀ (H : Heap) (locs : List Loc), va_P D vwCl [(q_t, .inr (8, [.int t_there, .ref q_t_book, .ref q_t_now, .ref q_t_does, .ref q_t_bad, .ref q_t_likes, .int t_sights, .ref q_t_sight, .int t_signs, .ref q_t_pad, .ref q_t_then, .int z199, .int z200, .int z201, .ref q_t_ahead, .int t_reason, .int t_acts, .ref q_t_most, .ref q_t_worth, .ref q_t_damp, .ref q_t_next, .ref q_t_image, .ref q_t_isKept])), (q_t_book, .inl (G 0, 26, .inl t_book)), (q_t_now, .inl (G 0, 26, .inl z202)), (q_t_does, .inl (G 0, 12, .inl t_does)), (q_t_bad, .inl (G 0, 36, .inl t_bad)), (q_t_then, .inl (G 0, 18, .inl z203)), (q_t_ahead, .inl (G 0, 6, .inl z204))] H → va_D A [(q_t, .inr (8, [.int t_there, .ref q_t_book, .ref q_t_now, .ref q_t_does, .ref q_t_bad, .ref q_t_likes, .int t_sights, .ref q_t_sight, .int t_signs, .ref q_t_pad, .ref q_t_then, .int z199, .int z200, .int z201, .ref q_t_ahead, .int t_reason, .int t_acts, .ref q_t_most, .ref q_t_worth, .ref q_t_damp, .ref q_t_next, .ref q_t_image, .ref q_t_isKept])), (q_t_book, .inl (G 0, 26, .inl t_book)), (q_t_now, .inl (G 0, 26, .inl z202)), (q_t_does, .inl (G 0, 12, .inl t_does)), (q_t_bad, .inl (G 0, 36, .inl t_bad)), (q_t_then, .inl (G 0, 18, .inl z203)), (q_t_ahead, .inl (G 0, 6, .inl z204))] → va_S A s.heap H locs → ∀ ls : Array Slot, lv_has ls 8 [(0, .ref q_t), (3, .int v3)] → W p l e (kR 4 127) s m args below meth c H locs 0 0 Q (F0 m 130 ls []) := by
          intro z199 z200 z201 z202 z203 z204 hy; obtain ⟨rfl, rfl, rfl, rfl, rfl, rfl⟩ := sm6 hy
          intro H locs hP hD hS ls hl
          refine lv_iconst (v := (0 : Int32)) hx hb dX8_week_130 (by decide) ?_
          refine lv_istore (lv' := [(5, .int (0 : Int32)), (0, .ref q_t), (3, .int v3)]) hx hb dX8_week_131 hl (by decide) rfl (fun ls hl => ?_)
          refine lv_iconst (v := (0 : Int32)) hx hb dX8_week_133 (by decide) ?_
          refine lv_istore (lv' := [(6, .int (0 : Int32)), (5, .int (0 : Int32)), (0, .ref q_t), (3, .int v3)]) hx hb dX8_week_134 hl (by decide) rfl (fun ls hl => ?_)
          refine lv_iconst (v := (0 : Int32)) hx hb dX8_week_136 (by decide) ?_
          refine lv_istore (lv' := [(7, .int (0 : Int32)), (6, .int (0 : Int32)), (5, .int (0 : Int32)), (0, .ref q_t), (3, .int v3)]) hx hb dX8_week_137 hl (by decide) rfl (fun ls hl => ?_)
          obtain ⟨u266, u267, h271, hf⟩ := bd2E hf
          have E268 : ∀ (z314 : Int32) (z315 : Int32), some (z314, z315) = some (u266, u267) → ∀ (H : Heap) (locs : List Loc), va_P D vwCl [(q_t, .inr (8, [.int t_there, .ref q_t_book, .ref q_t_now, .ref q_t_does, .ref q_t_bad, .ref q_t_likes, .int t_sights, .ref q_t_sight, .int t_signs, .ref q_t_pad, .ref q_t_then, .int z199, .int z200, .int z201, .ref q_t_ahead, .int t_reason, .int t_acts, .ref q_t_most, .ref q_t_worth, .ref q_t_damp, .ref q_t_next, .ref q_t_image, .ref q_t_isKept])), (q_t_book, .inl (G 0, 26, .inl t_book)), (q_t_now, .inl (G 0, 26, .inl z202)), (q_t_does, .inl (G 0, 12, .inl t_does)), (q_t_bad, .inl (G 0, 36, .inl t_bad)), (q_t_then, .inl (G 0, 18, .inl z203)), (q_t_ahead, .inl (G 0, 6, .inl z204))] H → va_D A [(q_t, .inr (8, [.int t_there, .ref q_t_book, .ref q_t_now, .ref q_t_does, .ref q_t_bad, .ref q_t_likes, .int t_sights, .ref q_t_sight, .int t_signs, .ref q_t_pad, .ref q_t_then, .int z199, .int z200, .int z201, .ref q_t_ahead, .int t_reason, .int t_acts, .ref q_t_most, .ref q_t_worth, .ref q_t_damp, .ref q_t_next, .ref q_t_image, .ref q_t_isKept])), (q_t_book, .inl (G 0, 26, .inl t_book)), (q_t_now, .inl (G 0, 26, .inl z202)), (q_t_does, .inl (G 0, 12, .inl t_does)), (q_t_bad, .inl (G 0, 36, .inl t_bad)), (q_t_then, .inl (G 0, 18, .inl z203)), (q_t_ahead, .inl (G 0, 6, .inl z204))] → va_S A s.heap H locs → ∀ ls : Array Slot, lv_has ls 8 [(0, .ref q_t), (3, .int v3), (5, .int z314), (6, .int z315)] → W p l e (kR 4 127) s m args below meth c H locs 0 0 Q (F0 m 210 ls []) := by
            intro z314 z315 hy; obtain ⟨rfl, rfl⟩ := sm2 hy
            intro H locs hP hD hS ls hl
            refine lv_iload_n hx hb dX8_week_210 rfl (lv_at hl 1 rfl) ?_
            refine lv_if_ne (tgt := 219) hx hb dX8_week_211 (by decide) (fun c316 => ?_) (fun c316 => ?_)
            · have hf := ifn c316 hf
              refine lv_iload_n hx hb dX8_week_219 rfl (lv_at hl 1 rfl) ?_
              refine lv_iconst (v := (1 : Int32)) hx hb dX8_week_220 (by decide) ?_
              refine lv_icmp_ne (tgt := 229) hx hb dX8_week_221 (by decide) (fun c317 => ?_) (fun c317 => ?_)
              · have hf := ifn c317 hf
                refine lv_aload_n hx hb dX8_week_229 rfl (lv_at hl 0 rfl) ?_
                refine va_get (D := D) (ci := 8) (v := .int z201) (C := RX8) (T := TX8) (N := 23) hx hb hts inX8 hown hK hP 0 rfl rfl 13 (by decide) (hts _ lfX8_99) (fun _ h9 => h9) rfl dX8_week_230 ?_
                exact RT _ _ _ _ _ _ _ hf _ _ _ H locs dX8_week_233 (rkI _) hP hD hS
              · have hf := ifp c317 hf
                refine lv_iload hx hb dX8_week_224 (lv_at hl 3 rfl) ?_
                refine lv_goto (tgt := 233) hx hb dX8_week_226 (by decide) ?_
                exact RT _ _ _ _ _ _ _ hf _ _ _ H locs dX8_week_233 (rkI _) hP hD hS
            · have hf := ifp c316 hf
              refine lv_iload hx hb dX8_week_214 (lv_at hl 2 rfl) ?_
              refine lv_goto (tgt := 233) hx hb dX8_week_216 (by decide) ?_
              exact RT _ _ _ _ _ _ _ hf _ _ _ H locs dX8_week_233 (rkI _) hP hD hS
          have L269 : ∀ (k : Nat) (w263 : Int32) (w264 : Int32) (w265 : Int32), fX8_week_139 t_there z202 k w263 w264 w265 = some (u266, u267) → ∀ (H : Heap) (locs : List Loc), va_P D vwCl [(q_t, .inr (8, [.int t_there, .ref q_t_book, .ref q_t_now, .ref q_t_does, .ref q_t_bad, .ref q_t_likes, .int t_sights, .ref q_t_sight, .int t_signs, .ref q_t_pad, .ref q_t_then, .int z199, .int z200, .int z201, .ref q_t_ahead, .int t_reason, .int t_acts, .ref q_t_most, .ref q_t_worth, .ref q_t_damp, .ref q_t_next, .ref q_t_image, .ref q_t_isKept])), (q_t_book, .inl (G 0, 26, .inl t_book)), (q_t_now, .inl (G 0, 26, .inl z202)), (q_t_does, .inl (G 0, 12, .inl t_does)), (q_t_bad, .inl (G 0, 36, .inl t_bad)), (q_t_then, .inl (G 0, 18, .inl z203)), (q_t_ahead, .inl (G 0, 6, .inl z204))] H → va_D A [(q_t, .inr (8, [.int t_there, .ref q_t_book, .ref q_t_now, .ref q_t_does, .ref q_t_bad, .ref q_t_likes, .int t_sights, .ref q_t_sight, .int t_signs, .ref q_t_pad, .ref q_t_then, .int z199, .int z200, .int z201, .ref q_t_ahead, .int t_reason, .int t_acts, .ref q_t_most, .ref q_t_worth, .ref q_t_damp, .ref q_t_next, .ref q_t_image, .ref q_t_isKept])), (q_t_book, .inl (G 0, 26, .inl t_book)), (q_t_now, .inl (G 0, 26, .inl z202)), (q_t_does, .inl (G 0, 12, .inl t_does)), (q_t_bad, .inl (G 0, 36, .inl t_bad)), (q_t_then, .inl (G 0, 18, .inl z203)), (q_t_ahead, .inl (G 0, 6, .inl z204))] → va_S A s.heap H locs → ∀ ls : Array Slot, lv_has ls 8 [(0, .ref q_t), (3, .int v3), (5, .int w263), (6, .int w264), (7, .int w265)] → W p l e (kR 4 127) s m args below meth c H locs 0 0 Q (F0 m 139 ls []) := by
            intro k; induction k with
            | zero => intro w263 w264 w265 hf; exact nosome hf
            | succ k ih =>
              intro w263 w264 w265 hf; rw [fX8_week_139] at hf
              intro H locs hP hD hS ls hl
              refine lv_iload hx hb dX8_week_139 (lv_at hl 4 rfl) ?_
              refine lv_bipush (v := (6 : Int32)) hx hb dX8_week_141 (by decide) ?_
              refine lv_icmp_ge (tgt := 210) hx hb dX8_week_143 (by decide) (fun c274 => ?_) (fun c274 => ?_)
              · have hf := ifp c274 hf
                exact E268 _ _ hf H locs hP hD hS ls (lv_sub hl [0, 1, 2, 3] rfl)
              · have hf := ifn c274 hf
                refine lv_iload hx hb dX8_week_146 (lv_at hl 2 rfl) ?_
                refine lv_aload_n hx hb dX8_week_148 rfl (lv_at hl 0 rfl) ?_
                refine va_get (D := D) (ci := 8) (v := .int t_there) (C := RX8) (T := TX8) (N := 23) hx hb hts inX8 hown hK hP 0 rfl rfl 0 (by decide) (hts _ lfX8_57) (fun _ h9 => h9) rfl dX8_week_149 ?_
                refine lv_iload hx hb dX8_week_152 (lv_at hl 4 rfl) ?_
                obtain ⟨r275, h276, hf⟩ := bd1E hf
                refine kO_stat hx hb hml hown hts hK hn hP (kX8_has l D G t_there w265 h276) csX8_65 ⟨Nat.le_of_ble_eq_true rfl, Nat.le_of_ble_eq_true rfl⟩ [] rfl rfl hl.1 rfl (Nat.le_of_ble_eq_true rfl) ⟨Nat.zero_le _, Nat.zero_le _⟩ dX8_week_154 ?_
                obtain ⟨j280, h313, hf⟩ := bd1E hf
                have E309 : ∀ (z281 : Int32), some z281 = some j280 → ∀ (H : Heap) (locs : List Loc), va_P D vwCl [(q_t, .inr (8, [.int t_there, .ref q_t_book, .ref q_t_now, .ref q_t_does, .ref q_t_bad, .ref q_t_likes, .int t_sights, .ref q_t_sight, .int t_signs, .ref q_t_pad, .ref q_t_then, .int z199, .int z200, .int z201, .ref q_t_ahead, .int t_reason, .int t_acts, .ref q_t_most, .ref q_t_worth, .ref q_t_damp, .ref q_t_next, .ref q_t_image, .ref q_t_isKept])), (q_t_book, .inl (G 0, 26, .inl t_book)), (q_t_now, .inl (G 0, 26, .inl z202)), (q_t_does, .inl (G 0, 12, .inl t_does)), (q_t_bad, .inl (G 0, 36, .inl t_bad)), (q_t_then, .inl (G 0, 18, .inl z203)), (q_t_ahead, .inl (G 0, 6, .inl z204))] H → va_D A [(q_t, .inr (8, [.int t_there, .ref q_t_book, .ref q_t_now, .ref q_t_does, .ref q_t_bad, .ref q_t_likes, .int t_sights, .ref q_t_sight, .int t_signs, .ref q_t_pad, .ref q_t_then, .int z199, .int z200, .int z201, .ref q_t_ahead, .int t_reason, .int t_acts, .ref q_t_most, .ref q_t_worth, .ref q_t_damp, .ref q_t_next, .ref q_t_image, .ref q_t_isKept])), (q_t_book, .inl (G 0, 26, .inl t_book)), (q_t_now, .inl (G 0, 26, .inl z202)), (q_t_does, .inl (G 0, 12, .inl t_does)), (q_t_bad, .inl (G 0, 36, .inl t_bad)), (q_t_then, .inl (G 0, 18, .inl z203)), (q_t_ahead, .inl (G 0, 6, .inl z204))] → va_S A s.heap H locs → ∀ ls : Array Slot, lv_has ls 8 [(0, .ref q_t), (3, .int v3), (6, .int w264), (7, .int w265)] → W p l e (kR 4 127) s m args below meth c H locs 0 0 Q (F0 m 170 ls [.int z281, .int w263]) := by
                  intro z281 hy; obtain rfl := sm1 hy
                  intro H locs hP hD hS ls hl
                  refine lv_iadd hx hb dX8_week_170 ?_
                  refine lv_topi (fun y282 ey282 => ?_)
                  have hf := nmeU ey282 hf
                  refine lv_istore (lv' := [(5, .int y282), (0, .ref q_t), (3, .int v3), (6, .int w264), (7, .int w265)]) hx hb dX8_week_171 hl (by decide) rfl (fun ls hl => ?_)
                  refine lv_iload hx hb dX8_week_173 (lv_at hl 3 rfl) ?_
                  refine lv_aload_n hx hb dX8_week_175 rfl (lv_at hl 1 rfl) ?_
                  refine va_get (D := D) (ci := 8) (v := .int t_there) (C := RX8) (T := TX8) (N := 23) hx hb hts inX8 hown hK hP 0 rfl rfl 0 (by decide) (hts _ lfX8_57) (fun _ h9 => h9) rfl dX8_week_176 ?_
                  refine lv_iload hx hb dX8_week_179 (lv_at hl 4 rfl) ?_
                  obtain ⟨r283, h284, hf⟩ := bd1E hf
                  refine kO_stat hx hb hml hown hts hK hn hP (kX8_has l D G t_there w265 h284) csX8_65 ⟨Nat.le_of_ble_eq_true rfl, Nat.le_of_ble_eq_true rfl⟩ [] rfl rfl hl.1 rfl (Nat.le_of_ble_eq_true rfl) ⟨Nat.zero_le _, Nat.zero_le _⟩ dX8_week_181 ?_
                  obtain ⟨j294, h308, hf⟩ := bd1E hf
                  have E298 : ∀ (z295 : Int32), some z295 = some j294 → ∀ (H : Heap) (locs : List Loc), va_P D vwCl [(q_t, .inr (8, [.int t_there, .ref q_t_book, .ref q_t_now, .ref q_t_does, .ref q_t_bad, .ref q_t_likes, .int t_sights, .ref q_t_sight, .int t_signs, .ref q_t_pad, .ref q_t_then, .int z199, .int z200, .int z201, .ref q_t_ahead, .int t_reason, .int t_acts, .ref q_t_most, .ref q_t_worth, .ref q_t_damp, .ref q_t_next, .ref q_t_image, .ref q_t_isKept])), (q_t_book, .inl (G 0, 26, .inl t_book)), (q_t_now, .inl (G 0, 26, .inl z202)), (q_t_does, .inl (G 0, 12, .inl t_does)), (q_t_bad, .inl (G 0, 36, .inl t_bad)), (q_t_then, .inl (G 0, 18, .inl z203)), (q_t_ahead, .inl (G 0, 6, .inl z204))] H → va_D A [(q_t, .inr (8, [.int t_there, .ref q_t_book, .ref q_t_now, .ref q_t_does, .ref q_t_bad, .ref q_t_likes, .int t_sights, .ref q_t_sight, .int t_signs, .ref q_t_pad, .ref q_t_then, .int z199, .int z200, .int z201, .ref q_t_ahead, .int t_reason, .int t_acts, .ref q_t_most, .ref q_t_worth, .ref q_t_damp, .ref q_t_next, .ref q_t_image, .ref q_t_isKept])), (q_t_book, .inl (G 0, 26, .inl t_book)), (q_t_now, .inl (G 0, 26, .inl z202)), (q_t_does, .inl (G 0, 12, .inl t_does)), (q_t_bad, .inl (G 0, 36, .inl t_bad)), (q_t_then, .inl (G 0, 18, .inl z203)), (q_t_ahead, .inl (G 0, 6, .inl z204))] → va_S A s.heap H locs → ∀ ls : Array Slot, lv_has ls 8 [(0, .ref q_t), (3, .int v3), (5, .int y282), (7, .int w265)] → W p l e (kR 4 127) s m args below meth c H locs 0 0 Q (F0 m 201 ls [.int z295, .int w264]) := by
                    intro z295 hy; obtain rfl := sm1 hy
                    intro H locs hP hD hS ls hl
                    refine lv_iadd hx hb dX8_week_201 ?_
                    refine lv_topi (fun y296 ey296 => ?_)
                    have hf := nmeU ey296 hf
                    refine lv_istore (lv' := [(6, .int y296), (0, .ref q_t), (3, .int v3), (5, .int y282), (7, .int w265)]) hx hb dX8_week_202 hl (by decide) rfl (fun ls hl => ?_)
                    obtain ⟨y297, ey297⟩ : ∃ y : Int32, y = w265 + (1 : Int32) := ⟨_, rfl⟩
                    have hf := nmeU ey297 hf
                    refine lv_iinc (v := y297) (lv' := [(7, .int y297), (6, .int y296), (0, .ref q_t), (3, .int v3), (5, .int y282)]) hx hb dX8_week_204 hl (k := 4) rfl (by rw [ey297]; rfl) (by decide) rfl (fun ls hl => ?_)
                    refine lv_goto (tgt := 139) hx hb dX8_week_207 (by decide) ?_
                    exact ih _ _ _ hf H locs hP hD hS ls (lv_sub hl [2, 3, 4, 1, 0] rfl)
                  have hf := h308
                  refine lv_if_eq (tgt := 200) hx hb dX8_week_184 (by decide) (fun c299 => ?_) (fun c299 => ?_)
                  · have hf := ifp c299 hf
                    refine lv_iconst (v := (0 : Int32)) hx hb dX8_week_200 (by decide) ?_
                    exact E298 _ hf H locs hP hD hS ls (lv_sub hl [1, 2, 0, 4] rfl)
                  · have hf := ifn c299 hf
                    refine lv_aload_n hx hb dX8_week_187 rfl (lv_at hl 1 rfl) ?_
                    refine lv_iload hx hb dX8_week_188 (lv_at hl 4 rfl) ?_
                    obtain ⟨r300, h301, hf⟩ := bd1E hf
                    refine kO_virt hx hb hml hown hts hK hn hP (kX8_illsOf l D G q_t q_t_book q_t_now q_t_does q_t_bad q_t_likes q_t_sight q_t_pad q_t_then q_t_ahead q_t_most q_t_worth q_t_damp q_t_next q_t_image q_t_isKept t_there t_sights t_signs z199 z200 z201 t_reason t_acts z202 w265 h301) cvX8_90 ⟨Nat.le_of_ble_eq_true rfl, Nat.le_of_ble_eq_true rfl⟩ [0, 2] rfl 0 rfl rfl rfl hl.1 rfl (Nat.le_of_ble_eq_true rfl) ⟨Nat.zero_le _, Nat.zero_le _⟩ dX8_week_190 ?_
                    obtain ⟨j303, h307, hf⟩ := bd1E hf
                    have E305 : ∀ (z304 : Int32), some z304 = some j303 → ∀ (H : Heap) (locs : List Loc), va_P D vwCl [(q_t, .inr (8, [.int t_there, .ref q_t_book, .ref q_t_now, .ref q_t_does, .ref q_t_bad, .ref q_t_likes, .int t_sights, .ref q_t_sight, .int t_signs, .ref q_t_pad, .ref q_t_then, .int z199, .int z200, .int z201, .ref q_t_ahead, .int t_reason, .int t_acts, .ref q_t_most, .ref q_t_worth, .ref q_t_damp, .ref q_t_next, .ref q_t_image, .ref q_t_isKept])), (q_t_book, .inl (G 0, 26, .inl t_book)), (q_t_now, .inl (G 0, 26, .inl z202)), (q_t_does, .inl (G 0, 12, .inl t_does)), (q_t_bad, .inl (G 0, 36, .inl t_bad)), (q_t_then, .inl (G 0, 18, .inl z203)), (q_t_ahead, .inl (G 0, 6, .inl z204))] H → va_D A [(q_t, .inr (8, [.int t_there, .ref q_t_book, .ref q_t_now, .ref q_t_does, .ref q_t_bad, .ref q_t_likes, .int t_sights, .ref q_t_sight, .int t_signs, .ref q_t_pad, .ref q_t_then, .int z199, .int z200, .int z201, .ref q_t_ahead, .int t_reason, .int t_acts, .ref q_t_most, .ref q_t_worth, .ref q_t_damp, .ref q_t_next, .ref q_t_image, .ref q_t_isKept])), (q_t_book, .inl (G 0, 26, .inl t_book)), (q_t_now, .inl (G 0, 26, .inl z202)), (q_t_does, .inl (G 0, 12, .inl t_does)), (q_t_bad, .inl (G 0, 36, .inl t_bad)), (q_t_then, .inl (G 0, 18, .inl z203)), (q_t_ahead, .inl (G 0, 6, .inl z204))] → va_S A s.heap H locs → ∀ ls : Array Slot, lv_has ls 8 [(0, .ref q_t), (3, .int v3), (5, .int y282), (7, .int w265)] → W p l e (kR 4 127) s m args below meth c H locs 0 0 Q (F0 m 201 ls [.int z304, .int w264]) := by
                      intro z304 hy; obtain rfl := sm1 hy
                      intro H locs hP hD hS ls hl
                      exact E298 _ hf H locs hP hD hS ls (lv_sub hl [0, 1, 2, 3] rfl)
                    have hf := h307
                    refine lv_if_ne (tgt := 200) hx hb dX8_week_193 (by decide) (fun c306 => ?_) (fun c306 => ?_)
                    · have hf := ifn c306 hf
                      refine lv_iconst (v := (0 : Int32)) hx hb dX8_week_200 (by decide) ?_
                      exact E305 _ hf H locs hP hD hS ls (lv_sub hl [1, 2, 0, 4] rfl)
                    · have hf := ifp c306 hf
                      refine lv_iconst (v := (1 : Int32)) hx hb dX8_week_196 (by decide) ?_
                      refine lv_goto (tgt := 201) hx hb dX8_week_197 (by decide) ?_
                      exact E305 _ hf H locs hP hD hS ls (lv_sub hl [1, 2, 0, 4] rfl)
                have hf := h313
                refine lv_if_eq (tgt := 169) hx hb dX8_week_157 (by decide) (fun c310 => ?_) (fun c310 => ?_)
                · have hf := ifp c310 hf
                  refine lv_iconst (v := (0 : Int32)) hx hb dX8_week_169 (by decide) ?_
                  exact E309 _ hf H locs hP hD hS ls (lv_sub hl [0, 1, 3, 4] rfl)
                · have hf := ifn c310 hf
                  refine lv_aload_n hx hb dX8_week_160 rfl (lv_at hl 0 rfl) ?_
                  refine lv_iload hx hb dX8_week_161 (lv_at hl 4 rfl) ?_
                  obtain ⟨r311, h312, hf⟩ := bd1E hf
                  refine kO_virt hx hb hml hown hts hK hn hP (kX8_illsOf l D G q_t q_t_book q_t_now q_t_does q_t_bad q_t_likes q_t_sight q_t_pad q_t_then q_t_ahead q_t_most q_t_worth q_t_damp q_t_next q_t_image q_t_isKept t_there t_sights t_signs z199 z200 z201 t_reason t_acts z202 w265 h312) cvX8_90 ⟨Nat.le_of_ble_eq_true rfl, Nat.le_of_ble_eq_true rfl⟩ [0, 2] rfl 0 rfl rfl rfl hl.1 rfl (Nat.le_of_ble_eq_true rfl) ⟨Nat.zero_le _, Nat.zero_le _⟩ dX8_week_163 ?_
                  refine lv_goto (tgt := 170) hx hb dX8_week_166 (by decide) ?_
                  exact E309 _ hf H locs hP hD hS ls (lv_sub hl [0, 1, 3, 4] rfl)
          exact L269 fu (0 : Int32) (0 : Int32) (0 : Int32) h271 H locs hP hD hS ls (lv_sub hl [3, 4, 2, 1, 0] rfl)
        have L121 : ∀ (k : Nat) (w106 : Int32) (w107 : Int32) (w108 : Int32) (w109 : Int32) (w110 : Int32) (w111 : Nat → Int32) (w112 : Nat → Int32) (w113 : Nat → Int32), fX8_week_43 fu v2 t_there t_does t_bad k w106 w107 w108 w109 w110 w111 w112 w113 = some (u114, u115, u116, u117, u118, u119) → ∀ (H : Heap) (locs : List Loc), va_P D vwCl [(q_t, .inr (8, [.int t_there, .ref q_t_book, .ref q_t_now, .ref q_t_does, .ref q_t_bad, .ref q_t_likes, .int t_sights, .ref q_t_sight, .int t_signs, .ref q_t_pad, .ref q_t_then, .int w108, .int w109, .int w110, .ref q_t_ahead, .int t_reason, .int t_acts, .ref q_t_most, .ref q_t_worth, .ref q_t_damp, .ref q_t_next, .ref q_t_image, .ref q_t_isKept])), (q_t_book, .inl (G 0, 26, .inl t_book)), (q_t_now, .inl (G 0, 26, .inl w111)), (q_t_does, .inl (G 0, 12, .inl t_does)), (q_t_bad, .inl (G 0, 36, .inl t_bad)), (q_t_then, .inl (G 0, 18, .inl w112)), (q_t_ahead, .inl (G 0, 6, .inl w113))] H → va_D A [(q_t, .inr (8, [.int t_there, .ref q_t_book, .ref q_t_now, .ref q_t_does, .ref q_t_bad, .ref q_t_likes, .int t_sights, .ref q_t_sight, .int t_signs, .ref q_t_pad, .ref q_t_then, .int w108, .int w109, .int w110, .ref q_t_ahead, .int t_reason, .int t_acts, .ref q_t_most, .ref q_t_worth, .ref q_t_damp, .ref q_t_next, .ref q_t_image, .ref q_t_isKept])), (q_t_book, .inl (G 0, 26, .inl t_book)), (q_t_now, .inl (G 0, 26, .inl w111)), (q_t_does, .inl (G 0, 12, .inl t_does)), (q_t_bad, .inl (G 0, 36, .inl t_bad)), (q_t_then, .inl (G 0, 18, .inl w112)), (q_t_ahead, .inl (G 0, 6, .inl w113))] → va_S A s.heap H locs → ∀ ls : Array Slot, lv_has ls 8 [(0, .ref q_t), (2, .int v2), (3, .int v3), (4, .int w106), (5, .int w107)] → W p l e (kR 4 127) s m args below meth c H locs 0 0 Q (F0 m 43 ls []) := by
          intro k; induction k with
          | zero => intro w106 w107 w108 w109 w110 w111 w112 w113 hf; exact nosome hf
          | succ k ih =>
            intro w106 w107 w108 w109 w110 w111 w112 w113 hf; rw [fX8_week_43] at hf
            intro H locs hP hD hS ls hl
            refine lv_iload hx hb dX8_week_43 (lv_at hl 4 rfl) ?_
            refine lv_iload_n hx hb dX8_week_45 rfl (lv_at hl 1 rfl) ?_
            refine lv_icmp_ge (tgt := 130) hx hb dX8_week_46 (by decide) (fun c126 => ?_) (fun c126 => ?_)
            · have hf := ifp c126 hf
              exact E120 _ _ _ _ _ _ hf H locs hP hD hS ls (lv_sub hl [0, 2] rfl)
            · have hf := ifn c126 hf
              refine lv_bipush (v := (75 : Int32)) hx hb dX8_week_49 (by decide) ?_
              refine lv_iload hx hb dX8_week_51 (lv_at hl 3 rfl) ?_
              refine lv_imul hx hb dX8_week_53 ?_
              refine lv_bipush (v := (74 : Int32)) hx hb dX8_week_54 (by decide) ?_
              refine lv_iadd hx hb dX8_week_56 ?_
              refine lv_ldc (v := (65537 : Int32)) hx hb hown (hts _ lcX8_166) dX8_week_57 ?_
              refine lv_irem hx hb dX8_week_59 (by decide) ?_
              refine lv_topi (fun y127 ey127 => ?_)
              have hf := nmeU ey127 hf
              refine lv_istore (lv' := [(4, .int y127), (0, .ref q_t), (2, .int v2), (3, .int v3), (5, .int w107)]) hx hb dX8_week_60 hl (by decide) rfl (fun ls hl => ?_)
              refine lv_iload hx hb dX8_week_62 (lv_at hl 0 rfl) ?_
              refine lv_bipush (v := (8 : Int32)) hx hb dX8_week_64 (by decide) ?_
              refine lv_irem hx hb dX8_week_66 (by decide) ?_
              refine lv_topi (fun y128 ey128 => ?_)
              have hf := nmeU ey128 hf
              refine lv_istore (lv' := [(6, .int y128), (4, .int y127), (0, .ref q_t), (2, .int v2), (3, .int v3), (5, .int w107)]) hx hb dX8_week_67 hl (by decide) rfl (fun ls hl => ?_)
              refine lv_iload hx hb dX8_week_69 (lv_at hl 1 rfl) ?_
              refine lv_bipush (v := (8 : Int32)) hx hb dX8_week_71 (by decide) ?_
              refine lv_idiv hx hb dX8_week_73 (by decide) ?_
              refine lv_bipush (v := (6 : Int32)) hx hb dX8_week_74 (by decide) ?_
              refine lv_irem hx hb dX8_week_76 (by decide) ?_
              refine lv_topi (fun y129 ey129 => ?_)
              have hf := nmeU ey129 hf
              refine lv_istore (lv' := [(7, .int y129), (6, .int y128), (4, .int y127), (0, .ref q_t), (2, .int v2), (3, .int v3), (5, .int w107)]) hx hb dX8_week_77 hl (by decide) rfl (fun ls hl => ?_)
              refine lv_iload hx hb dX8_week_79 (lv_at hl 1 rfl) ?_
              refine lv_iconst (v := (4 : Int32)) hx hb dX8_week_81 (by decide) ?_
              obtain ⟨j157, j158, j159, j160, j161, j162, h198, hf⟩ := bd6E hf
              have E170 : ∀ (z163 : Int32) (z164 : Int32) (z165 : Int32) (z166 : Nat → Int32) (z167 : Nat → Int32) (z168 : Nat → Int32), some (z163, z164, z165, z166, z167, z168) = some (j157, j158, j159, j160, j161, j162) → ∀ (H : Heap) (locs : List Loc), va_P D vwCl [(q_t, .inr (8, [.int t_there, .ref q_t_book, .ref q_t_now, .ref q_t_does, .ref q_t_bad, .ref q_t_likes, .int t_sights, .ref q_t_sight, .int t_signs, .ref q_t_pad, .ref q_t_then, .int z163, .int z164, .int z165, .ref q_t_ahead, .int t_reason, .int t_acts, .ref q_t_most, .ref q_t_worth, .ref q_t_damp, .ref q_t_next, .ref q_t_image, .ref q_t_isKept])), (q_t_book, .inl (G 0, 26, .inl t_book)), (q_t_now, .inl (G 0, 26, .inl z166)), (q_t_does, .inl (G 0, 12, .inl t_does)), (q_t_bad, .inl (G 0, 36, .inl t_bad)), (q_t_then, .inl (G 0, 18, .inl z167)), (q_t_ahead, .inl (G 0, 6, .inl z168))] H → va_D A [(q_t, .inr (8, [.int t_there, .ref q_t_book, .ref q_t_now, .ref q_t_does, .ref q_t_bad, .ref q_t_likes, .int t_sights, .ref q_t_sight, .int t_signs, .ref q_t_pad, .ref q_t_then, .int z163, .int z164, .int z165, .ref q_t_ahead, .int t_reason, .int t_acts, .ref q_t_most, .ref q_t_worth, .ref q_t_damp, .ref q_t_next, .ref q_t_image, .ref q_t_isKept])), (q_t_book, .inl (G 0, 26, .inl t_book)), (q_t_now, .inl (G 0, 26, .inl z166)), (q_t_does, .inl (G 0, 12, .inl t_does)), (q_t_bad, .inl (G 0, 36, .inl t_bad)), (q_t_then, .inl (G 0, 18, .inl z167)), (q_t_ahead, .inl (G 0, 6, .inl z168))] → va_S A s.heap H locs → ∀ ls : Array Slot, lv_has ls 8 [(0, .ref q_t), (2, .int v2), (3, .int v3), (4, .int y127), (5, .int w107)] → W p l e (kR 4 127) s m args below meth c H locs 0 0 Q (F0 m 124 ls []) := by
                intro z163 z164 z165 z166 z167 z168 hy; obtain ⟨rfl, rfl, rfl, rfl, rfl, rfl⟩ := sm6 hy
                intro H locs hP hD hS ls hl
                obtain ⟨y169, ey169⟩ : ∃ y : Int32, y = w107 + (1 : Int32) := ⟨_, rfl⟩
                have hf := nmeU ey169 hf
                refine lv_iinc (v := y169) (lv' := [(5, .int y169), (0, .ref q_t), (2, .int v2), (3, .int v3), (4, .int y127)]) hx hb dX8_week_124 hl (k := 4) rfl (by rw [ey169]; rfl) (by decide) rfl (fun ls hl => ?_)
                refine lv_goto (tgt := 43) hx hb dX8_week_127 (by decide) ?_
                exact ih _ _ _ _ _ _ _ _ hf H locs hP hD hS ls (lv_sub hl [1, 2, 3, 4, 0] rfl)
              have hf := h198
              refine lv_icmp_ge (tgt := 93) hx hb dX8_week_82 (by decide) (fun c171 => ?_) (fun c171 => ?_)
              · have hf := ifp c171 hf
                refine lv_iload hx hb dX8_week_93 (lv_at hl 1 rfl) ?_
                refine lv_bipush (v := (6 : Int32)) hx hb dX8_week_95 (by decide) ?_
                obtain ⟨j179, h189, hf⟩ := bd1E hf
                have E181 : ∀ (z180 : Nat → Int32), some z180 = some j179 → ∀ (H : Heap) (locs : List Loc), va_P D vwCl [(q_t, .inr (8, [.int t_there, .ref q_t_book, .ref q_t_now, .ref q_t_does, .ref q_t_bad, .ref q_t_likes, .int t_sights, .ref q_t_sight, .int t_signs, .ref q_t_pad, .ref q_t_then, .int w108, .int w109, .int w110, .ref q_t_ahead, .int t_reason, .int t_acts, .ref q_t_most, .ref q_t_worth, .ref q_t_damp, .ref q_t_next, .ref q_t_image, .ref q_t_isKept])), (q_t_book, .inl (G 0, 26, .inl t_book)), (q_t_now, .inl (G 0, 26, .inl z180)), (q_t_does, .inl (G 0, 12, .inl t_does)), (q_t_bad, .inl (G 0, 36, .inl t_bad)), (q_t_then, .inl (G 0, 18, .inl w112)), (q_t_ahead, .inl (G 0, 6, .inl w113))] H → va_D A [(q_t, .inr (8, [.int t_there, .ref q_t_book, .ref q_t_now, .ref q_t_does, .ref q_t_bad, .ref q_t_likes, .int t_sights, .ref q_t_sight, .int t_signs, .ref q_t_pad, .ref q_t_then, .int w108, .int w109, .int w110, .ref q_t_ahead, .int t_reason, .int t_acts, .ref q_t_most, .ref q_t_worth, .ref q_t_damp, .ref q_t_next, .ref q_t_image, .ref q_t_isKept])), (q_t_book, .inl (G 0, 26, .inl t_book)), (q_t_now, .inl (G 0, 26, .inl z180)), (q_t_does, .inl (G 0, 12, .inl t_does)), (q_t_bad, .inl (G 0, 36, .inl t_bad)), (q_t_then, .inl (G 0, 18, .inl w112)), (q_t_ahead, .inl (G 0, 6, .inl w113))] → va_S A s.heap H locs → ∀ ls : Array Slot, lv_has ls 8 [(0, .ref q_t), (2, .int v2), (3, .int v3), (4, .int y127), (5, .int w107)] → W p l e (kR 4 127) s m args below meth c H locs 0 0 Q (F0 m 124 ls []) := by
                  intro z180 hy; obtain rfl := sm1 hy
                  intro H locs hP hD hS ls hl
                  exact E170 _ _ _ _ _ _ hf H locs hP hD hS ls (lv_sub hl [0, 1, 2, 3, 4] rfl)
                have hf := h189
                refine lv_icmp_ge (tgt := 110) hx hb dX8_week_97 (by decide) (fun c182 => ?_) (fun c182 => ?_)
                · have hf := ifp c182 hf
                  refine lv_aload_n hx hb dX8_week_110 rfl (lv_at hl 3 rfl) ?_
                  refine lv_iload hx hb dX8_week_111 (lv_at hl 0 rfl) ?_
                  refine lv_iload hx hb dX8_week_113 (lv_at hl 2 rfl) ?_
                  refine lv_bipush (v := (48 : Int32)) hx hb dX8_week_115 (by decide) ?_
                  refine lv_idiv hx hb dX8_week_117 (by decide) ?_
                  refine lv_iconst (v := (4 : Int32)) hx hb dX8_week_118 (by decide) ?_
                  refine lv_irem hx hb dX8_week_119 (by decide) ?_
                  obtain ⟨r183, o184, h185, hf⟩ := bd2E hf
                  refine kW_virt hx hb hml hown hts hK hn hA hP hD hS (kX8_walk l D G q_t q_t_book q_t_now q_t_does q_t_bad q_t_likes q_t_sight q_t_pad q_t_then q_t_ahead q_t_most q_t_worth q_t_damp q_t_next q_t_image q_t_isKept t_there t_sights t_signs w108 w109 w110 t_reason t_acts w111 y129 ((y127 / (48 : Int32)) - (y127 / (48 : Int32)) / (4 : Int32) * (4 : Int32)) h185) cvX8_123 ⟨Nat.le_of_ble_eq_true rfl, Nat.le_of_ble_eq_true rfl⟩ [0, 2] rfl rfl [true, false, true] rfl (w3 := [(q_t, .inr (8, [.int t_there, .ref q_t_book, .ref q_t_now, .ref q_t_does, .ref q_t_bad, .ref q_t_likes, .int t_sights, .ref q_t_sight, .int t_signs, .ref q_t_pad, .ref q_t_then, .int w108, .int w109, .int w110, .ref q_t_ahead, .int t_reason, .int t_acts, .ref q_t_most, .ref q_t_worth, .ref q_t_damp, .ref q_t_next, .ref q_t_image, .ref q_t_isKept])), (q_t_now, .inl (G 0, 26, .inl o184))]) [0, 1] rfl rfl 0 rfl rfl rfl hl.1 rfl (Nat.le_of_ble_eq_true rfl) ⟨Nat.zero_le _, Nat.zero_le _⟩ dX8_week_120 (fun H locs hP hD hS => ?_)
                  have hP : va_P D vwCl [(q_t, .inr (8, [.int t_there, .ref q_t_book, .ref q_t_now, .ref q_t_does, .ref q_t_bad, .ref q_t_likes, .int t_sights, .ref q_t_sight, .int t_signs, .ref q_t_pad, .ref q_t_then, .int w108, .int w109, .int w110, .ref q_t_ahead, .int t_reason, .int t_acts, .ref q_t_most, .ref q_t_worth, .ref q_t_damp, .ref q_t_next, .ref q_t_image, .ref q_t_isKept])), (q_t_book, .inl (G 0, 26, .inl t_book)), (q_t_now, .inl (G 0, 26, .inl o184)), (q_t_does, .inl (G 0, 12, .inl t_does)), (q_t_bad, .inl (G 0, 36, .inl t_bad)), (q_t_then, .inl (G 0, 18, .inl w112)), (q_t_ahead, .inl (G 0, 6, .inl w113))] H := hP
                  have hD : va_D A [(q_t, .inr (8, [.int t_there, .ref q_t_book, .ref q_t_now, .ref q_t_does, .ref q_t_bad, .ref q_t_likes, .int t_sights, .ref q_t_sight, .int t_signs, .ref q_t_pad, .ref q_t_then, .int w108, .int w109, .int w110, .ref q_t_ahead, .int t_reason, .int t_acts, .ref q_t_most, .ref q_t_worth, .ref q_t_damp, .ref q_t_next, .ref q_t_image, .ref q_t_isKept])), (q_t_book, .inl (G 0, 26, .inl t_book)), (q_t_now, .inl (G 0, 26, .inl o184)), (q_t_does, .inl (G 0, 12, .inl t_does)), (q_t_bad, .inl (G 0, 36, .inl t_bad)), (q_t_then, .inl (G 0, 18, .inl w112)), (q_t_ahead, .inl (G 0, 6, .inl w113))] := hD
                  refine lv_pop hx hb dX8_week_123 rfl ?_
                  exact E181 _ hf H locs hP hD hS ls (lv_sub hl [3, 4, 5, 2, 6] rfl)
                · have hf := ifn c182 hf
                  refine lv_aload_n hx hb dX8_week_100 rfl (lv_at hl 3 rfl) ?_
                  refine lv_iload hx hb dX8_week_101 (lv_at hl 0 rfl) ?_
                  obtain ⟨r186, o187, h188, hf⟩ := bd2E hf
                  refine kW_virt hx hb hml hown hts hK hn hA hP hD hS (kX8_sit l D G q_t q_t_book q_t_now q_t_does q_t_bad q_t_likes q_t_sight q_t_pad q_t_then q_t_ahead q_t_most q_t_worth q_t_damp q_t_next q_t_image q_t_isKept t_there t_sights t_signs w108 w109 w110 t_reason t_acts w111 y129 h188) cvX8_120 ⟨Nat.le_of_ble_eq_true rfl, Nat.le_of_ble_eq_true rfl⟩ [0, 2] rfl rfl [true, false, true] rfl (w3 := [(q_t, .inr (8, [.int t_there, .ref q_t_book, .ref q_t_now, .ref q_t_does, .ref q_t_bad, .ref q_t_likes, .int t_sights, .ref q_t_sight, .int t_signs, .ref q_t_pad, .ref q_t_then, .int w108, .int w109, .int w110, .ref q_t_ahead, .int t_reason, .int t_acts, .ref q_t_most, .ref q_t_worth, .ref q_t_damp, .ref q_t_next, .ref q_t_image, .ref q_t_isKept])), (q_t_now, .inl (G 0, 26, .inl o187))]) [0, 1] rfl rfl 0 rfl rfl rfl hl.1 rfl (Nat.le_of_ble_eq_true rfl) ⟨Nat.zero_le _, Nat.zero_le _⟩ dX8_week_103 (fun H locs hP hD hS => ?_)
                  have hP : va_P D vwCl [(q_t, .inr (8, [.int t_there, .ref q_t_book, .ref q_t_now, .ref q_t_does, .ref q_t_bad, .ref q_t_likes, .int t_sights, .ref q_t_sight, .int t_signs, .ref q_t_pad, .ref q_t_then, .int w108, .int w109, .int w110, .ref q_t_ahead, .int t_reason, .int t_acts, .ref q_t_most, .ref q_t_worth, .ref q_t_damp, .ref q_t_next, .ref q_t_image, .ref q_t_isKept])), (q_t_book, .inl (G 0, 26, .inl t_book)), (q_t_now, .inl (G 0, 26, .inl o187)), (q_t_does, .inl (G 0, 12, .inl t_does)), (q_t_bad, .inl (G 0, 36, .inl t_bad)), (q_t_then, .inl (G 0, 18, .inl w112)), (q_t_ahead, .inl (G 0, 6, .inl w113))] H := hP
                  have hD : va_D A [(q_t, .inr (8, [.int t_there, .ref q_t_book, .ref q_t_now, .ref q_t_does, .ref q_t_bad, .ref q_t_likes, .int t_sights, .ref q_t_sight, .int t_signs, .ref q_t_pad, .ref q_t_then, .int w108, .int w109, .int w110, .ref q_t_ahead, .int t_reason, .int t_acts, .ref q_t_most, .ref q_t_worth, .ref q_t_damp, .ref q_t_next, .ref q_t_image, .ref q_t_isKept])), (q_t_book, .inl (G 0, 26, .inl t_book)), (q_t_now, .inl (G 0, 26, .inl o187)), (q_t_does, .inl (G 0, 12, .inl t_does)), (q_t_bad, .inl (G 0, 36, .inl t_bad)), (q_t_then, .inl (G 0, 18, .inl w112)), (q_t_ahead, .inl (G 0, 6, .inl w113))] := hD
                  refine lv_pop hx hb dX8_week_106 rfl ?_
                  refine lv_goto (tgt := 124) hx hb dX8_week_107 (by decide) ?_
                  exact E181 _ hf H locs hP hD hS ls (lv_sub hl [3, 4, 5, 2, 6] rfl)
              · have hf := ifn c171 hf
                refine lv_aload_n hx hb dX8_week_85 rfl (lv_at hl 3 rfl) ?_
                obtain ⟨r190, o191, o192, o193, o194, o195, o196, h197, hf⟩ := bd7E hf
                refine kW_virt hx hb hml hown hts hK hn hA hP hD hS (kX8_pass l D G fu q_t q_t_book q_t_now q_t_does q_t_bad q_t_likes q_t_sight q_t_pad q_t_then q_t_ahead q_t_most q_t_worth q_t_damp q_t_next q_t_image q_t_isKept t_there t_sights t_signs w108 w109 w110 t_reason t_acts w111 t_does t_bad w112 w113 h197) cvX8_114 ⟨Nat.le_of_ble_eq_true rfl, Nat.le_of_ble_eq_true rfl⟩ [0, 2, 3, 4, 5, 6] rfl rfl [true, false, true, true, true, true, true] rfl (w3 := [(q_t, .inr (8, [.int t_there, .ref q_t_book, .ref q_t_now, .ref q_t_does, .ref q_t_bad, .ref q_t_likes, .int t_sights, .ref q_t_sight, .int t_signs, .ref q_t_pad, .ref q_t_then, .int o191, .int o192, .int o193, .ref q_t_ahead, .int t_reason, .int t_acts, .ref q_t_most, .ref q_t_worth, .ref q_t_damp, .ref q_t_next, .ref q_t_image, .ref q_t_isKept])), (q_t_now, .inl (G 0, 26, .inl o194)), (q_t_does, .inl (G 0, 12, .inl t_does)), (q_t_bad, .inl (G 0, 36, .inl t_bad)), (q_t_then, .inl (G 0, 18, .inl o195)), (q_t_ahead, .inl (G 0, 6, .inl o196))]) [0, 1, 2, 3, 4, 5] rfl rfl 0 rfl rfl rfl hl.1 rfl (Nat.le_of_ble_eq_true rfl) ⟨Nat.zero_le _, Nat.zero_le _⟩ dX8_week_86 (fun H locs hP hD hS => ?_)
                have hP : va_P D vwCl [(q_t, .inr (8, [.int t_there, .ref q_t_book, .ref q_t_now, .ref q_t_does, .ref q_t_bad, .ref q_t_likes, .int t_sights, .ref q_t_sight, .int t_signs, .ref q_t_pad, .ref q_t_then, .int o191, .int o192, .int o193, .ref q_t_ahead, .int t_reason, .int t_acts, .ref q_t_most, .ref q_t_worth, .ref q_t_damp, .ref q_t_next, .ref q_t_image, .ref q_t_isKept])), (q_t_book, .inl (G 0, 26, .inl t_book)), (q_t_now, .inl (G 0, 26, .inl o194)), (q_t_does, .inl (G 0, 12, .inl t_does)), (q_t_bad, .inl (G 0, 36, .inl t_bad)), (q_t_then, .inl (G 0, 18, .inl o195)), (q_t_ahead, .inl (G 0, 6, .inl o196))] H := hP
                have hD : va_D A [(q_t, .inr (8, [.int t_there, .ref q_t_book, .ref q_t_now, .ref q_t_does, .ref q_t_bad, .ref q_t_likes, .int t_sights, .ref q_t_sight, .int t_signs, .ref q_t_pad, .ref q_t_then, .int o191, .int o192, .int o193, .ref q_t_ahead, .int t_reason, .int t_acts, .ref q_t_most, .ref q_t_worth, .ref q_t_damp, .ref q_t_next, .ref q_t_image, .ref q_t_isKept])), (q_t_book, .inl (G 0, 26, .inl t_book)), (q_t_now, .inl (G 0, 26, .inl o194)), (q_t_does, .inl (G 0, 12, .inl t_does)), (q_t_bad, .inl (G 0, 36, .inl t_bad)), (q_t_then, .inl (G 0, 18, .inl o195)), (q_t_ahead, .inl (G 0, 6, .inl o196))] := hD
                refine lv_pop hx hb dX8_week_89 rfl ?_
                refine lv_goto (tgt := 124) hx hb dX8_week_90 (by decide) ?_
                exact E170 _ _ _ _ _ _ hf H locs hP hD hS ls (lv_sub hl [3, 4, 5, 2, 6] rfl)
        exact L121 fu v1 (0 : Int32) o10 o11 o12 o13 t_then t_ahead h123 H locs hP hD hS ls (lv_sub hl [2, 4, 5, 1, 0] rfl)
      · have hf := ifp c9 hf
        refine lv_bipush (v := (-2 : Int32)) hx hb dX8_week_30 (by decide) ?_
        exact RT _ _ _ _ _ _ _ hf _ _ _ H locs dX8_week_32 (rkI _) hP hD hS
set_option maxHeartbeats 4000000 in
set_option maxRecDepth 100000 in
theorem kX8_well (l : Launch) (D : va_G) (G : Nat → ClassId) (fu : Nat) (q_t q_t_book q_t_now q_t_does q_t_bad q_t_likes q_t_sight q_t_pad q_t_then q_t_ahead q_t_most q_t_worth q_t_damp q_t_next q_t_image q_t_isKept : Nat) (t_there : Int32) (t_sights : Int32) (t_signs : Int32) (t_worseAt : Int32) (t_worseWho : Int32) (t_hours : Int32) (t_reason : Int32) (t_acts : Int32) (t_book : Nat → Int32) (t_now : Nat → Int32) {r : Int32} {o_t_now : Nat → Int32} (hf : fX8_well fu t_there t_book t_now = some (r, o_t_now)) : rW l D G yX8_well cX8_well 3 (some .int) 2 81 [.ref q_t] [(q_t, .inr (8, [.int t_there, .ref q_t_book, .ref q_t_now, .ref q_t_does, .ref q_t_bad, .ref q_t_likes, .int t_sights, .ref q_t_sight, .int t_signs, .ref q_t_pad, .ref q_t_then, .int t_worseAt, .int t_worseWho, .int t_hours, .ref q_t_ahead, .int t_reason, .int t_acts, .ref q_t_most, .ref q_t_worth, .ref q_t_damp, .ref q_t_next, .ref q_t_image, .ref q_t_isKept])), (q_t_book, .inl (G 0, 26, .inl t_book)), (q_t_now, .inl (G 0, 26, .inl t_now))] [(q_t, .inr (8, [.int t_there, .ref q_t_book, .ref q_t_now, .ref q_t_does, .ref q_t_bad, .ref q_t_likes, .int t_sights, .ref q_t_sight, .int t_signs, .ref q_t_pad, .ref q_t_then, .int t_worseAt, .int t_worseWho, .int t_hours, .ref q_t_ahead, .int t_reason, .int t_acts, .ref q_t_most, .ref q_t_worth, .ref q_t_damp, .ref q_t_next, .ref q_t_image, .ref q_t_isKept])), (q_t_book, .inl (G 0, 26, .inl t_book)), (q_t_now, .inl (G 0, 26, .inl o_t_now))] (some (.int r)) := by
  refine rW_of (by decide) (Nat.le_of_ble_eq_true rfl) ?_
  intro p e s m args below meth c Q A hx hb hml hown hts hK hn hA RET H locs hP hD hS ls hl
  have RT : ∀ (a0_ : Int32) (a1_ : Nat → Int32), some (a0_, a1_) = some (r, o_t_now) → ∀ (pc : Nat) (ls : Array Slot) (ins : Instr) (H : Heap) (locs : List Loc), decode cX8_well pc = .ok (ins, 1) → rk (some .int) (some (.int a0_)) ins → va_P D vwCl [(q_t, .inr (8, [.int t_there, .ref q_t_book, .ref q_t_now, .ref q_t_does, .ref q_t_bad, .ref q_t_likes, .int t_sights, .ref q_t_sight, .int t_signs, .ref q_t_pad, .ref q_t_then, .int t_worseAt, .int t_worseWho, .int t_hours, .ref q_t_ahead, .int t_reason, .int t_acts, .ref q_t_most, .ref q_t_worth, .ref q_t_damp, .ref q_t_next, .ref q_t_image, .ref q_t_isKept])), (q_t_book, .inl (G 0, 26, .inl t_book)), (q_t_now, .inl (G 0, 26, .inl a1_))] H → va_D A [(q_t, .inr (8, [.int t_there, .ref q_t_book, .ref q_t_now, .ref q_t_does, .ref q_t_bad, .ref q_t_likes, .int t_sights, .ref q_t_sight, .int t_signs, .ref q_t_pad, .ref q_t_then, .int t_worseAt, .int t_worseWho, .int t_hours, .ref q_t_ahead, .int t_reason, .int t_acts, .ref q_t_most, .ref q_t_worth, .ref q_t_damp, .ref q_t_next, .ref q_t_image, .ref q_t_isKept])), (q_t_book, .inl (G 0, 26, .inl t_book)), (q_t_now, .inl (G 0, 26, .inl a1_))] → va_S A s.heap H locs → W p l e (kR 2 81) s m args below meth c H locs 0 0 Q (F0 m pc ls [.int a0_]) := by
    intro a0_ a1_ hy; obtain ⟨rfl, rfl⟩ := sm2 hy
    exact RET
  have hown : s.vm.findClass RX8 = some m.cls := hown
  have hl : lv_has ls 3 [(0, .ref q_t)] := hl
  clear RET
  rw [fX8_well] at hf
  refine lv_aload_n hx hb dX8_well_0 rfl (lv_at hl 0 rfl) ?_
  obtain ⟨o1, h2, hf⟩ := bd1E hf
  refine kW_virt0 hx hb hml hown hts hK hn hA hP hD hS (kX8_asNow l D G fu q_t q_t_book q_t_now q_t_does q_t_bad q_t_likes q_t_sight q_t_pad q_t_then q_t_ahead q_t_most q_t_worth q_t_damp q_t_next q_t_image q_t_isKept t_there t_sights t_signs t_worseAt t_worseWho t_hours t_reason t_acts t_book t_now h2) cvX8_105 ⟨Nat.le_of_ble_eq_true rfl, Nat.le_of_ble_eq_true rfl⟩ [0, 1, 2] rfl rfl [true, true, true] rfl (w3 := [(q_t, .inr (8, [.int t_there, .ref q_t_book, .ref q_t_now, .ref q_t_does, .ref q_t_bad, .ref q_t_likes, .int t_sights, .ref q_t_sight, .int t_signs, .ref q_t_pad, .ref q_t_then, .int t_worseAt, .int t_worseWho, .int t_hours, .ref q_t_ahead, .int t_reason, .int t_acts, .ref q_t_most, .ref q_t_worth, .ref q_t_damp, .ref q_t_next, .ref q_t_image, .ref q_t_isKept])), (q_t_book, .inl (G 0, 26, .inl t_book)), (q_t_now, .inl (G 0, 26, .inl o1))]) [0, 1, 2] rfl rfl 0 rfl rfl rfl hl.1 rfl (Nat.le_of_ble_eq_true rfl) ⟨Nat.zero_le _, Nat.zero_le _⟩ dX8_well_1 (fun H locs hP hD hS => ?_)
  have hP : va_P D vwCl [(q_t, .inr (8, [.int t_there, .ref q_t_book, .ref q_t_now, .ref q_t_does, .ref q_t_bad, .ref q_t_likes, .int t_sights, .ref q_t_sight, .int t_signs, .ref q_t_pad, .ref q_t_then, .int t_worseAt, .int t_worseWho, .int t_hours, .ref q_t_ahead, .int t_reason, .int t_acts, .ref q_t_most, .ref q_t_worth, .ref q_t_damp, .ref q_t_next, .ref q_t_image, .ref q_t_isKept])), (q_t_book, .inl (G 0, 26, .inl t_book)), (q_t_now, .inl (G 0, 26, .inl o1))] H := hP
  have hD : va_D A [(q_t, .inr (8, [.int t_there, .ref q_t_book, .ref q_t_now, .ref q_t_does, .ref q_t_bad, .ref q_t_likes, .int t_sights, .ref q_t_sight, .int t_signs, .ref q_t_pad, .ref q_t_then, .int t_worseAt, .int t_worseWho, .int t_hours, .ref q_t_ahead, .int t_reason, .int t_acts, .ref q_t_most, .ref q_t_worth, .ref q_t_damp, .ref q_t_next, .ref q_t_image, .ref q_t_isKept])), (q_t_book, .inl (G 0, 26, .inl t_book)), (q_t_now, .inl (G 0, 26, .inl o1))] := hD
  refine lv_iconst (v := (0 : Int32)) hx hb dX8_well_4 (by decide) ?_
  refine lv_istore_n (lv' := [(1, .int (0 : Int32)), (0, .ref q_t)]) hx hb dX8_well_5 rfl hl (by decide) rfl (fun ls hl => ?_)
  refine lv_iconst (v := (0 : Int32)) hx hb dX8_well_6 (by decide) ?_
  refine lv_istore_n (lv' := [(2, .int (0 : Int32)), (1, .int (0 : Int32)), (0, .ref q_t)]) hx hb dX8_well_7 rfl hl (by decide) rfl (fun ls hl => ?_)
  obtain ⟨u44, h48, hf⟩ := bd1E hf
  have E45 : ∀ (z78 : Int32), some z78 = some u44 → ∀ (H : Heap) (locs : List Loc), va_P D vwCl [(q_t, .inr (8, [.int t_there, .ref q_t_book, .ref q_t_now, .ref q_t_does, .ref q_t_bad, .ref q_t_likes, .int t_sights, .ref q_t_sight, .int t_signs, .ref q_t_pad, .ref q_t_then, .int t_worseAt, .int t_worseWho, .int t_hours, .ref q_t_ahead, .int t_reason, .int t_acts, .ref q_t_most, .ref q_t_worth, .ref q_t_damp, .ref q_t_next, .ref q_t_image, .ref q_t_isKept])), (q_t_book, .inl (G 0, 26, .inl t_book)), (q_t_now, .inl (G 0, 26, .inl o1))] H → va_D A [(q_t, .inr (8, [.int t_there, .ref q_t_book, .ref q_t_now, .ref q_t_does, .ref q_t_bad, .ref q_t_likes, .int t_sights, .ref q_t_sight, .int t_signs, .ref q_t_pad, .ref q_t_then, .int t_worseAt, .int t_worseWho, .int t_hours, .ref q_t_ahead, .int t_reason, .int t_acts, .ref q_t_most, .ref q_t_worth, .ref q_t_damp, .ref q_t_next, .ref q_t_image, .ref q_t_isKept])), (q_t_book, .inl (G 0, 26, .inl t_book)), (q_t_now, .inl (G 0, 26, .inl o1))] → va_S A s.heap H locs → ∀ ls : Array Slot, lv_has ls 3 [(1, .int z78)] → W p l e (kR 2 81) s m args below meth c H locs 0 0 Q (F0 m 49 ls []) := by
    intro z78 hy; obtain rfl := sm1 hy
    intro H locs hP hD hS ls hl
    refine lv_iload_n hx hb dX8_well_49 rfl (lv_at hl 0 rfl) ?_
    exact RT _ _ hf _ _ _ H locs dX8_well_50 (rkI _) hP hD hS
  have L46 : ∀ (k : Nat) (w42 : Int32) (w43 : Int32), fX8_well_8 t_there o1 k w42 w43 = some u44 → ∀ (H : Heap) (locs : List Loc), va_P D vwCl [(q_t, .inr (8, [.int t_there, .ref q_t_book, .ref q_t_now, .ref q_t_does, .ref q_t_bad, .ref q_t_likes, .int t_sights, .ref q_t_sight, .int t_signs, .ref q_t_pad, .ref q_t_then, .int t_worseAt, .int t_worseWho, .int t_hours, .ref q_t_ahead, .int t_reason, .int t_acts, .ref q_t_most, .ref q_t_worth, .ref q_t_damp, .ref q_t_next, .ref q_t_image, .ref q_t_isKept])), (q_t_book, .inl (G 0, 26, .inl t_book)), (q_t_now, .inl (G 0, 26, .inl o1))] H → va_D A [(q_t, .inr (8, [.int t_there, .ref q_t_book, .ref q_t_now, .ref q_t_does, .ref q_t_bad, .ref q_t_likes, .int t_sights, .ref q_t_sight, .int t_signs, .ref q_t_pad, .ref q_t_then, .int t_worseAt, .int t_worseWho, .int t_hours, .ref q_t_ahead, .int t_reason, .int t_acts, .ref q_t_most, .ref q_t_worth, .ref q_t_damp, .ref q_t_next, .ref q_t_image, .ref q_t_isKept])), (q_t_book, .inl (G 0, 26, .inl t_book)), (q_t_now, .inl (G 0, 26, .inl o1))] → va_S A s.heap H locs → ∀ ls : Array Slot, lv_has ls 3 [(0, .ref q_t), (1, .int w42), (2, .int w43)] → W p l e (kR 2 81) s m args below meth c H locs 0 0 Q (F0 m 8 ls []) := by
    intro k; induction k with
    | zero => intro w42 w43 hf; exact nosome hf
    | succ k ih =>
      intro w42 w43 hf; rw [fX8_well_8] at hf
      intro H locs hP hD hS ls hl
      refine lv_iload_n hx hb dX8_well_8 rfl (lv_at hl 2 rfl) ?_
      refine lv_bipush (v := (6 : Int32)) hx hb dX8_well_9 (by decide) ?_
      refine lv_icmp_ge (tgt := 49) hx hb dX8_well_11 (by decide) (fun c51 => ?_) (fun c51 => ?_)
      · have hf := ifp c51 hf
        exact E45 _ hf H locs hP hD hS ls (lv_sub hl [1] rfl)
      · have hf := ifn c51 hf
        refine lv_iload_n hx hb dX8_well_14 rfl (lv_at hl 1 rfl) ?_
        refine lv_aload_n hx hb dX8_well_15 rfl (lv_at hl 0 rfl) ?_
        refine va_get (D := D) (ci := 8) (v := .int t_there) (C := RX8) (T := TX8) (N := 23) hx hb hts inX8 hown hK hP 0 rfl rfl 0 (by decide) (hts _ lfX8_57) (fun _ h9 => h9) rfl dX8_well_16 ?_
        refine lv_iload_n hx hb dX8_well_19 rfl (lv_at hl 2 rfl) ?_
        obtain ⟨r52, h53, hf⟩ := bd1E hf
        refine kO_stat hx hb hml hown hts hK hn hP (kX8_has l D G t_there w43 h53) csX8_65 ⟨Nat.le_of_ble_eq_true rfl, Nat.le_of_ble_eq_true rfl⟩ [] rfl rfl hl.1 rfl (Nat.le_of_ble_eq_true rfl) ⟨Nat.zero_le _, Nat.zero_le _⟩ dX8_well_20 ?_
        obtain ⟨j63, h77, hf⟩ := bd1E hf
        have E67 : ∀ (z64 : Int32), some z64 = some j63 → ∀ (H : Heap) (locs : List Loc), va_P D vwCl [(q_t, .inr (8, [.int t_there, .ref q_t_book, .ref q_t_now, .ref q_t_does, .ref q_t_bad, .ref q_t_likes, .int t_sights, .ref q_t_sight, .int t_signs, .ref q_t_pad, .ref q_t_then, .int t_worseAt, .int t_worseWho, .int t_hours, .ref q_t_ahead, .int t_reason, .int t_acts, .ref q_t_most, .ref q_t_worth, .ref q_t_damp, .ref q_t_next, .ref q_t_image, .ref q_t_isKept])), (q_t_book, .inl (G 0, 26, .inl t_book)), (q_t_now, .inl (G 0, 26, .inl o1))] H → va_D A [(q_t, .inr (8, [.int t_there, .ref q_t_book, .ref q_t_now, .ref q_t_does, .ref q_t_bad, .ref q_t_likes, .int t_sights, .ref q_t_sight, .int t_signs, .ref q_t_pad, .ref q_t_then, .int t_worseAt, .int t_worseWho, .int t_hours, .ref q_t_ahead, .int t_reason, .int t_acts, .ref q_t_most, .ref q_t_worth, .ref q_t_damp, .ref q_t_next, .ref q_t_image, .ref q_t_isKept])), (q_t_book, .inl (G 0, 26, .inl t_book)), (q_t_now, .inl (G 0, 26, .inl o1))] → va_S A s.heap H locs → ∀ ls : Array Slot, lv_has ls 3 [(0, .ref q_t), (2, .int w43)] → W p l e (kR 2 81) s m args below meth c H locs 0 0 Q (F0 m 41 ls [.int z64, .int w42]) := by
          intro z64 hy; obtain rfl := sm1 hy
          intro H locs hP hD hS ls hl
          refine lv_ior hx hb dX8_well_41 ?_
          refine lv_topi (fun y65 ey65 => ?_)
          have hf := nmeU ey65 hf
          refine lv_istore_n (lv' := [(1, .int y65), (0, .ref q_t), (2, .int w43)]) hx hb dX8_well_42 rfl hl (by decide) rfl (fun ls hl => ?_)
          obtain ⟨y66, ey66⟩ : ∃ y : Int32, y = w43 + (1 : Int32) := ⟨_, rfl⟩
          have hf := nmeU ey66 hf
          refine lv_iinc (v := y66) (lv' := [(2, .int y66), (1, .int y65), (0, .ref q_t)]) hx hb dX8_well_43 hl (k := 2) rfl (by rw [ey66]; rfl) (by decide) rfl (fun ls hl => ?_)
          refine lv_goto (tgt := 8) hx hb dX8_well_46 (by decide) ?_
          exact ih _ _ hf H locs hP hD hS ls (lv_sub hl [2, 1, 0] rfl)
        have hf := h77
        refine lv_if_eq (tgt := 40) hx hb dX8_well_23 (by decide) (fun c68 => ?_) (fun c68 => ?_)
        · have hf := ifp c68 hf
          refine lv_iconst (v := (0 : Int32)) hx hb dX8_well_40 (by decide) ?_
          exact E67 _ hf H locs hP hD hS ls (lv_sub hl [0, 2] rfl)
        · have hf := ifn c68 hf
          refine lv_aload_n hx hb dX8_well_26 rfl (lv_at hl 0 rfl) ?_
          refine lv_iload_n hx hb dX8_well_27 rfl (lv_at hl 2 rfl) ?_
          obtain ⟨r69, h70, hf⟩ := bd1E hf
          refine kO_virt hx hb hml hown hts hK hn hP (kX8_illsOf l D G q_t q_t_book q_t_now q_t_does q_t_bad q_t_likes q_t_sight q_t_pad q_t_then q_t_ahead q_t_most q_t_worth q_t_damp q_t_next q_t_image q_t_isKept t_there t_sights t_signs t_worseAt t_worseWho t_hours t_reason t_acts o1 w43 h70) cvX8_90 ⟨Nat.le_of_ble_eq_true rfl, Nat.le_of_ble_eq_true rfl⟩ [0, 2] rfl 0 rfl rfl rfl hl.1 rfl (Nat.le_of_ble_eq_true rfl) ⟨Nat.zero_le _, Nat.zero_le _⟩ dX8_well_28 ?_
          obtain ⟨j72, h76, hf⟩ := bd1E hf
          have E74 : ∀ (z73 : Int32), some z73 = some j72 → ∀ (H : Heap) (locs : List Loc), va_P D vwCl [(q_t, .inr (8, [.int t_there, .ref q_t_book, .ref q_t_now, .ref q_t_does, .ref q_t_bad, .ref q_t_likes, .int t_sights, .ref q_t_sight, .int t_signs, .ref q_t_pad, .ref q_t_then, .int t_worseAt, .int t_worseWho, .int t_hours, .ref q_t_ahead, .int t_reason, .int t_acts, .ref q_t_most, .ref q_t_worth, .ref q_t_damp, .ref q_t_next, .ref q_t_image, .ref q_t_isKept])), (q_t_book, .inl (G 0, 26, .inl t_book)), (q_t_now, .inl (G 0, 26, .inl o1))] H → va_D A [(q_t, .inr (8, [.int t_there, .ref q_t_book, .ref q_t_now, .ref q_t_does, .ref q_t_bad, .ref q_t_likes, .int t_sights, .ref q_t_sight, .int t_signs, .ref q_t_pad, .ref q_t_then, .int t_worseAt, .int t_worseWho, .int t_hours, .ref q_t_ahead, .int t_reason, .int t_acts, .ref q_t_most, .ref q_t_worth, .ref q_t_damp, .ref q_t_next, .ref q_t_image, .ref q_t_isKept])), (q_t_book, .inl (G 0, 26, .inl t_book)), (q_t_now, .inl (G 0, 26, .inl o1))] → va_S A s.heap H locs → ∀ ls : Array Slot, lv_has ls 3 [(0, .ref q_t), (2, .int w43)] → W p l e (kR 2 81) s m args below meth c H locs 0 0 Q (F0 m 41 ls [.int z73, .int w42]) := by
            intro z73 hy; obtain rfl := sm1 hy
            intro H locs hP hD hS ls hl
            exact E67 _ hf H locs hP hD hS ls (lv_sub hl [0, 1] rfl)
          have hf := h76
          refine lv_if_ne (tgt := 40) hx hb dX8_well_31 (by decide) (fun c75 => ?_) (fun c75 => ?_)
          · have hf := ifn c75 hf
            refine lv_iconst (v := (0 : Int32)) hx hb dX8_well_40 (by decide) ?_
            exact E74 _ hf H locs hP hD hS ls (lv_sub hl [0, 2] rfl)
          · have hf := ifp c75 hf
            refine lv_iconst (v := (1 : Int32)) hx hb dX8_well_34 (by decide) ?_
            refine lv_iload_n hx hb dX8_well_35 rfl (lv_at hl 2 rfl) ?_
            refine lv_ishl hx hb dX8_well_36 ?_
            refine lv_goto (tgt := 41) hx hb dX8_well_37 (by decide) ?_
            exact E74 _ hf H locs hP hD hS ls (lv_sub hl [0, 2] rfl)
  exact L46 fu (0 : Int32) (0 : Int32) h48 H locs hP hD hS ls (lv_sub hl [2, 1, 0] rfl)
set_option maxHeartbeats 4000000 in
set_option maxRecDepth 100000 in
theorem kX8_wipe (l : Launch) (D : va_G) (G : Nat → ClassId) (q_t q_t_book q_t_now q_t_does q_t_bad q_t_likes q_t_sight q_t_pad q_t_then q_t_ahead q_t_most q_t_worth q_t_damp q_t_next q_t_image q_t_isKept : Nat) (t_there : Int32) (t_sights : Int32) (t_signs : Int32) (t_worseAt : Int32) (t_worseWho : Int32) (t_hours : Int32) (t_reason : Int32) (t_acts : Int32) {r : Int32} {o_t_signs : Int32} (hf : fX8_wipe t_signs = some (r, o_t_signs)) : rW l D G yX8_wipe cX8_wipe 2 (some .int) 1 60 [.ref q_t] [(q_t, .inr (8, [.int t_there, .ref q_t_book, .ref q_t_now, .ref q_t_does, .ref q_t_bad, .ref q_t_likes, .int t_sights, .ref q_t_sight, .int t_signs, .ref q_t_pad, .ref q_t_then, .int t_worseAt, .int t_worseWho, .int t_hours, .ref q_t_ahead, .int t_reason, .int t_acts, .ref q_t_most, .ref q_t_worth, .ref q_t_damp, .ref q_t_next, .ref q_t_image, .ref q_t_isKept]))] [(q_t, .inr (8, [.int t_there, .ref q_t_book, .ref q_t_now, .ref q_t_does, .ref q_t_bad, .ref q_t_likes, .int t_sights, .ref q_t_sight, .int o_t_signs, .ref q_t_pad, .ref q_t_then, .int t_worseAt, .int t_worseWho, .int t_hours, .ref q_t_ahead, .int t_reason, .int t_acts, .ref q_t_most, .ref q_t_worth, .ref q_t_damp, .ref q_t_next, .ref q_t_image, .ref q_t_isKept]))] (some (.int r)) := by
  refine rW_of (by decide) (Nat.le_of_ble_eq_true rfl) ?_
  intro p e s m args below meth c Q A hx hb hml hown hts hK hn hA RET H locs hP hD hS ls hl
  have RT : ∀ (a0_ : Int32) (a1_ : Int32), some (a0_, a1_) = some (r, o_t_signs) → ∀ (pc : Nat) (ls : Array Slot) (ins : Instr) (H : Heap) (locs : List Loc), decode cX8_wipe pc = .ok (ins, 1) → rk (some .int) (some (.int a0_)) ins → va_P D vwCl [(q_t, .inr (8, [.int t_there, .ref q_t_book, .ref q_t_now, .ref q_t_does, .ref q_t_bad, .ref q_t_likes, .int t_sights, .ref q_t_sight, .int a1_, .ref q_t_pad, .ref q_t_then, .int t_worseAt, .int t_worseWho, .int t_hours, .ref q_t_ahead, .int t_reason, .int t_acts, .ref q_t_most, .ref q_t_worth, .ref q_t_damp, .ref q_t_next, .ref q_t_image, .ref q_t_isKept]))] H → va_D A [(q_t, .inr (8, [.int t_there, .ref q_t_book, .ref q_t_now, .ref q_t_does, .ref q_t_bad, .ref q_t_likes, .int t_sights, .ref q_t_sight, .int a1_, .ref q_t_pad, .ref q_t_then, .int t_worseAt, .int t_worseWho, .int t_hours, .ref q_t_ahead, .int t_reason, .int t_acts, .ref q_t_most, .ref q_t_worth, .ref q_t_damp, .ref q_t_next, .ref q_t_image, .ref q_t_isKept]))] → va_S A s.heap H locs → W p l e (kR 1 60) s m args below meth c H locs 0 0 Q (F0 m pc ls [.int a0_]) := by
    intro a0_ a1_ hy; obtain ⟨rfl, rfl⟩ := sm2 hy
    exact RET
  have hown : s.vm.findClass RX8 = some m.cls := hown
  have hl : lv_has ls 2 [(0, .ref q_t)] := hl
  clear RET
  rw [fX8_wipe] at hf
  refine lv_aload_n hx hb dX8_wipe_0 rfl (lv_at hl 0 rfl) ?_
  refine va_get (D := D) (ci := 8) (v := .int t_signs) (C := RX8) (T := TX8) (N := 23) hx hb hts inX8 hown hK hP 0 rfl rfl 8 (by decide) (hts _ lfX8_80) (fun _ h9 => h9) rfl dX8_wipe_1 ?_
  refine lv_istore_n (lv' := [(1, .int t_signs), (0, .ref q_t)]) hx hb dX8_wipe_4 rfl hl (by decide) rfl (fun ls hl => ?_)
  refine lv_aload_n hx hb dX8_wipe_5 rfl (lv_at hl 1 rfl) ?_
  refine lv_iconst (v := (0 : Int32)) hx hb dX8_wipe_6 (by decide) ?_
  refine va_put (D := D) (ci := 8) (v := .int (0 : Int32)) (ty := .int) (C := RX8) (T := TX8) (N := 23) hx hb hts inX8 tyX8 tyX8_ok nmX8 hown hK hP hD hS 0 rfl rfl 8 (by decide) (hts _ lfX8_80) (fun _ h9 => h9) rfl (tyX8_ok 8 (by decide)) rfl rfl (Nat.le_of_ble_eq_true rfl) dX8_wipe_7 (fun H locs hP hD hS => ?_)
  have hP : va_P D vwCl [(q_t, .inr (8, [.int t_there, .ref q_t_book, .ref q_t_now, .ref q_t_does, .ref q_t_bad, .ref q_t_likes, .int t_sights, .ref q_t_sight, .int (0 : Int32), .ref q_t_pad, .ref q_t_then, .int t_worseAt, .int t_worseWho, .int t_hours, .ref q_t_ahead, .int t_reason, .int t_acts, .ref q_t_most, .ref q_t_worth, .ref q_t_damp, .ref q_t_next, .ref q_t_image, .ref q_t_isKept]))] H := hP
  have hD : va_D A [(q_t, .inr (8, [.int t_there, .ref q_t_book, .ref q_t_now, .ref q_t_does, .ref q_t_bad, .ref q_t_likes, .int t_sights, .ref q_t_sight, .int (0 : Int32), .ref q_t_pad, .ref q_t_then, .int t_worseAt, .int t_worseWho, .int t_hours, .ref q_t_ahead, .int t_reason, .int t_acts, .ref q_t_most, .ref q_t_worth, .ref q_t_damp, .ref q_t_next, .ref q_t_image, .ref q_t_isKept]))] := hD
  refine lv_iload_n hx hb dX8_wipe_10 rfl (lv_at hl 0 rfl) ?_
  exact RT _ _ hf _ _ _ H locs dX8_wipe_11 (rkI _) hP hD hS
set_option maxHeartbeats 4000000 in
set_option maxRecDepth 100000 in
theorem kX8_worse (l : Launch) (D : va_G) (G : Nat → ClassId) (fu : Nat) (q_t q_t_book q_t_now q_t_does q_t_bad q_t_likes q_t_sight q_t_pad q_t_then q_t_ahead q_t_most q_t_worth q_t_damp q_t_next q_t_image q_t_isKept : Nat) (t_there : Int32) (t_sights : Int32) (t_signs : Int32) (t_worseAt : Int32) (t_worseWho : Int32) (t_hours : Int32) (t_reason : Int32) (t_acts : Int32) (t_book : Nat → Int32) (t_now : Nat → Int32) (t_does : Nat → Int32) (t_bad : Nat → Int32) (t_pad : Nat → Int32) (t_then : Nat → Int32) (t_ahead : Nat → Int32) (v1 : Int32) {r : Int32} {o_t_worseAt : Int32} {o_t_worseWho : Int32} {o_t_hours : Int32} {o_t_reason : Int32} {o_t_acts : Int32} {o_t_now : Nat → Int32} {o_t_then : Nat → Int32} {o_t_ahead : Nat → Int32} (hf : fX8_worse fu t_there t_signs t_worseAt t_worseWho t_hours t_reason t_acts t_book t_now t_does t_bad t_pad t_then t_ahead v1 = some (r, o_t_worseAt, o_t_worseWho, o_t_hours, o_t_reason, o_t_acts, o_t_now, o_t_then, o_t_ahead)) : rW l D G yX8_worse cX8_worse 2 (some .int) 6 169 [.ref q_t, .int v1] [(q_t, .inr (8, [.int t_there, .ref q_t_book, .ref q_t_now, .ref q_t_does, .ref q_t_bad, .ref q_t_likes, .int t_sights, .ref q_t_sight, .int t_signs, .ref q_t_pad, .ref q_t_then, .int t_worseAt, .int t_worseWho, .int t_hours, .ref q_t_ahead, .int t_reason, .int t_acts, .ref q_t_most, .ref q_t_worth, .ref q_t_damp, .ref q_t_next, .ref q_t_image, .ref q_t_isKept])), (q_t_book, .inl (G 0, 26, .inl t_book)), (q_t_now, .inl (G 0, 26, .inl t_now)), (q_t_does, .inl (G 0, 12, .inl t_does)), (q_t_bad, .inl (G 0, 36, .inl t_bad)), (q_t_pad, .inl (G 0, 60, .inl t_pad)), (q_t_then, .inl (G 0, 18, .inl t_then)), (q_t_ahead, .inl (G 0, 6, .inl t_ahead))] [(q_t, .inr (8, [.int t_there, .ref q_t_book, .ref q_t_now, .ref q_t_does, .ref q_t_bad, .ref q_t_likes, .int t_sights, .ref q_t_sight, .int t_signs, .ref q_t_pad, .ref q_t_then, .int o_t_worseAt, .int o_t_worseWho, .int o_t_hours, .ref q_t_ahead, .int o_t_reason, .int o_t_acts, .ref q_t_most, .ref q_t_worth, .ref q_t_damp, .ref q_t_next, .ref q_t_image, .ref q_t_isKept])), (q_t_book, .inl (G 0, 26, .inl t_book)), (q_t_now, .inl (G 0, 26, .inl o_t_now)), (q_t_does, .inl (G 0, 12, .inl t_does)), (q_t_bad, .inl (G 0, 36, .inl t_bad)), (q_t_pad, .inl (G 0, 60, .inl t_pad)), (q_t_then, .inl (G 0, 18, .inl o_t_then)), (q_t_ahead, .inl (G 0, 6, .inl o_t_ahead))] (some (.int r)) := by
  refine rW_of (by decide) (Nat.le_of_ble_eq_true rfl) ?_
  intro p e s m args below meth c Q A hx hb hml hown hts hK hn hA RET H locs hP hD hS ls hl
  have RT : ∀ (a0_ : Int32) (a1_ : Int32) (a2_ : Int32) (a3_ : Int32) (a4_ : Int32) (a5_ : Int32) (a6_ : Nat → Int32) (a7_ : Nat → Int32) (a8_ : Nat → Int32), some (a0_, a1_, a2_, a3_, a4_, a5_, a6_, a7_, a8_) = some (r, o_t_worseAt, o_t_worseWho, o_t_hours, o_t_reason, o_t_acts, o_t_now, o_t_then, o_t_ahead) → ∀ (pc : Nat) (ls : Array Slot) (ins : Instr) (H : Heap) (locs : List Loc), decode cX8_worse pc = .ok (ins, 1) → rk (some .int) (some (.int a0_)) ins → va_P D vwCl [(q_t, .inr (8, [.int t_there, .ref q_t_book, .ref q_t_now, .ref q_t_does, .ref q_t_bad, .ref q_t_likes, .int t_sights, .ref q_t_sight, .int t_signs, .ref q_t_pad, .ref q_t_then, .int a1_, .int a2_, .int a3_, .ref q_t_ahead, .int a4_, .int a5_, .ref q_t_most, .ref q_t_worth, .ref q_t_damp, .ref q_t_next, .ref q_t_image, .ref q_t_isKept])), (q_t_book, .inl (G 0, 26, .inl t_book)), (q_t_now, .inl (G 0, 26, .inl a6_)), (q_t_does, .inl (G 0, 12, .inl t_does)), (q_t_bad, .inl (G 0, 36, .inl t_bad)), (q_t_pad, .inl (G 0, 60, .inl t_pad)), (q_t_then, .inl (G 0, 18, .inl a7_)), (q_t_ahead, .inl (G 0, 6, .inl a8_))] H → va_D A [(q_t, .inr (8, [.int t_there, .ref q_t_book, .ref q_t_now, .ref q_t_does, .ref q_t_bad, .ref q_t_likes, .int t_sights, .ref q_t_sight, .int t_signs, .ref q_t_pad, .ref q_t_then, .int a1_, .int a2_, .int a3_, .ref q_t_ahead, .int a4_, .int a5_, .ref q_t_most, .ref q_t_worth, .ref q_t_damp, .ref q_t_next, .ref q_t_image, .ref q_t_isKept])), (q_t_book, .inl (G 0, 26, .inl t_book)), (q_t_now, .inl (G 0, 26, .inl a6_)), (q_t_does, .inl (G 0, 12, .inl t_does)), (q_t_bad, .inl (G 0, 36, .inl t_bad)), (q_t_pad, .inl (G 0, 60, .inl t_pad)), (q_t_then, .inl (G 0, 18, .inl a7_)), (q_t_ahead, .inl (G 0, 6, .inl a8_))] → va_S A s.heap H locs → W p l e (kR 6 169) s m args below meth c H locs 0 0 Q (F0 m pc ls [.int a0_]) := by
    intro a0_ a1_ a2_ a3_ a4_ a5_ a6_ a7_ a8_ hy; obtain ⟨rfl, rfl, rfl, rfl, rfl, rfl, rfl, rfl, rfl⟩ := sm9 hy
    exact RET
  have hown : s.vm.findClass RX8 = some m.cls := hown
  have hl : lv_has ls 2 [(0, .ref q_t), (1, .int v1)] := hl
  clear RET
  rw [fX8_worse] at hf
  refine lv_iload_n hx hb dX8_worse_0 rfl (lv_at hl 1 rfl) ?_
  refine lv_iconst (v := (0 : Int32)) hx hb dX8_worse_1 (by decide) ?_
  refine lv_iconst (v := (1 : Int32)) hx hb dX8_worse_2 (by decide) ?_
  obtain ⟨r1, h2, hf⟩ := bd1E hf
  refine kO_stat hx hb hml hown hts hK hn hP (kX8_in l D G v1 (0 : Int32) (1 : Int32) h2) csX8_61 ⟨Nat.le_of_ble_eq_true rfl, Nat.le_of_ble_eq_true rfl⟩ [] rfl rfl hl.1 rfl (Nat.le_of_ble_eq_true rfl) ⟨Nat.zero_le _, Nat.zero_le _⟩ dX8_worse_3 ?_
  refine lv_if_ne (tgt := 12) hx hb dX8_worse_6 (by decide) (fun c3 => ?_) (fun c3 => ?_)
  · have hf := ifn c3 hf
    refine lv_aload_n hx hb dX8_worse_12 rfl (lv_at hl 0 rfl) ?_
    obtain ⟨r4, o5, o6, o7, o8, o9, o10, o11, o12, h13, hf⟩ := bd9E hf
    refine kW_virt hx hb hml hown hts hK hn hA hP hD hS (kX8_barOfCures l D G fu q_t q_t_book q_t_now q_t_does q_t_bad q_t_likes q_t_sight q_t_pad q_t_then q_t_ahead q_t_most q_t_worth q_t_damp q_t_next q_t_image q_t_isKept t_there t_sights t_signs t_worseAt t_worseWho t_hours t_reason t_acts t_book t_now t_does t_bad t_pad t_then t_ahead h13) cvX8_130 ⟨Nat.le_of_ble_eq_true rfl, Nat.le_of_ble_eq_true rfl⟩ [0, 1, 2, 3, 4, 5, 6, 7] rfl rfl [true, true, true, true, true, true, true, true] rfl (w3 := [(q_t, .inr (8, [.int t_there, .ref q_t_book, .ref q_t_now, .ref q_t_does, .ref q_t_bad, .ref q_t_likes, .int t_sights, .ref q_t_sight, .int t_signs, .ref q_t_pad, .ref q_t_then, .int o5, .int o6, .int o7, .ref q_t_ahead, .int o8, .int o9, .ref q_t_most, .ref q_t_worth, .ref q_t_damp, .ref q_t_next, .ref q_t_image, .ref q_t_isKept])), (q_t_book, .inl (G 0, 26, .inl t_book)), (q_t_now, .inl (G 0, 26, .inl o10)), (q_t_does, .inl (G 0, 12, .inl t_does)), (q_t_bad, .inl (G 0, 36, .inl t_bad)), (q_t_pad, .inl (G 0, 60, .inl t_pad)), (q_t_then, .inl (G 0, 18, .inl o11)), (q_t_ahead, .inl (G 0, 6, .inl o12))]) [0, 1, 2, 3, 4, 5, 6, 7] rfl rfl 0 rfl rfl rfl hl.1 rfl (Nat.le_of_ble_eq_true rfl) ⟨Nat.zero_le _, Nat.zero_le _⟩ dX8_worse_13 (fun H locs hP hD hS => ?_)
    have hP : va_P D vwCl [(q_t, .inr (8, [.int t_there, .ref q_t_book, .ref q_t_now, .ref q_t_does, .ref q_t_bad, .ref q_t_likes, .int t_sights, .ref q_t_sight, .int t_signs, .ref q_t_pad, .ref q_t_then, .int o5, .int o6, .int o7, .ref q_t_ahead, .int o8, .int o9, .ref q_t_most, .ref q_t_worth, .ref q_t_damp, .ref q_t_next, .ref q_t_image, .ref q_t_isKept])), (q_t_book, .inl (G 0, 26, .inl t_book)), (q_t_now, .inl (G 0, 26, .inl o10)), (q_t_does, .inl (G 0, 12, .inl t_does)), (q_t_bad, .inl (G 0, 36, .inl t_bad)), (q_t_pad, .inl (G 0, 60, .inl t_pad)), (q_t_then, .inl (G 0, 18, .inl o11)), (q_t_ahead, .inl (G 0, 6, .inl o12))] H := hP
    have hD : va_D A [(q_t, .inr (8, [.int t_there, .ref q_t_book, .ref q_t_now, .ref q_t_does, .ref q_t_bad, .ref q_t_likes, .int t_sights, .ref q_t_sight, .int t_signs, .ref q_t_pad, .ref q_t_then, .int o5, .int o6, .int o7, .ref q_t_ahead, .int o8, .int o9, .ref q_t_most, .ref q_t_worth, .ref q_t_damp, .ref q_t_next, .ref q_t_image, .ref q_t_isKept])), (q_t_book, .inl (G 0, 26, .inl t_book)), (q_t_now, .inl (G 0, 26, .inl o10)), (q_t_does, .inl (G 0, 12, .inl t_does)), (q_t_bad, .inl (G 0, 36, .inl t_bad)), (q_t_pad, .inl (G 0, 60, .inl t_pad)), (q_t_then, .inl (G 0, 18, .inl o11)), (q_t_ahead, .inl (G 0, 6, .inl o12))] := hD
    refine lv_if_ge (tgt := 22) hx hb dX8_worse_16 (by decide) (fun c14 => ?_) (fun c14 => ?_)
    · have hf := ifp c14 hf
      refine lv_iload_n hx hb dX8_worse_22 rfl (lv_at hl 1 rfl) ?_
      refine lv_if_ne (tgt := 33) hx hb dX8_worse_23 (by decide) (fun c15 => ?_) (fun c15 => ?_)
      · have hf := ifn c15 hf
        refine lv_aload_n hx hb dX8_worse_33 rfl (lv_at hl 0 rfl) ?_
        refine va_get (D := D) (ci := 8) (v := .int o6) (C := RX8) (T := TX8) (N := 23) hx hb hts inX8 hown hK hP 0 rfl rfl 12 (by decide) (hts _ lfX8_102) (fun _ h9 => h9) rfl dX8_worse_34 ?_
        exact RT _ _ _ _ _ _ _ _ _ hf _ _ _ H locs dX8_worse_37 (rkI _) hP hD hS
      · have hf := ifp c15 hf
        refine lv_aload_n hx hb dX8_worse_26 rfl (lv_at hl 0 rfl) ?_
        refine va_get (D := D) (ci := 8) (v := .int o5) (C := RX8) (T := TX8) (N := 23) hx hb hts inX8 hown hK hP 0 rfl rfl 11 (by decide) (hts _ lfX8_96) (fun _ h9 => h9) rfl dX8_worse_27 ?_
        refine lv_goto (tgt := 37) hx hb dX8_worse_30 (by decide) ?_
        exact RT _ _ _ _ _ _ _ _ _ hf _ _ _ H locs dX8_worse_37 (rkI _) hP hD hS
    · have hf := ifn c14 hf
      refine lv_bipush (v := (-5 : Int32)) hx hb dX8_worse_19 (by decide) ?_
      exact RT _ _ _ _ _ _ _ _ _ hf _ _ _ H locs dX8_worse_21 (rkI _) hP hD hS
  · have hf := ifp c3 hf
    refine lv_bipush (v := (-2 : Int32)) hx hb dX8_worse_9 (by decide) ?_
    exact RT _ _ _ _ _ _ _ _ _ hf _ _ _ H locs dX8_worse_11 (rkI _) hP hD hS
