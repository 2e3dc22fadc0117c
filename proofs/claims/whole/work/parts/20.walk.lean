set_option maxHeartbeats 4000000 in
set_option maxRecDepth 100000 in
theorem kJ6_bitCount_0f7a4 (l : Launch) (D : va_G) (G : Nat → ClassId) (v0 : Int32) {r : Int32} (hf : fJ6_bitCount_0f7a4 v0 = some r) : rO l D G yJ6_bitCount_0f7a4 cJ6_bitCount_0f7a4 1 (some .int) 1 60 [.int v0] [] (some (.int r)) := by
  refine rO_of (by decide) (Nat.le_of_ble_eq_true rfl) ?_
  intro p e s m args below meth c Q hx hb hml hown hts hK hn hP RET ls hl
  have RT : ∀ (a0_ : Int32), some a0_ = some r → ∀ (pc : Nat) (ls : Array Slot) (ins : Instr), decode cJ6_bitCount_0f7a4 pc = .ok (ins, 1) → rk (some .int) (some (.int a0_)) ins → W p l e (kR 1 60) s m args below meth c s.heap [] 0 0 Q (F0 m pc ls [.int a0_]) := by
    intro a0_ hy; obtain rfl := sm1 hy
    exact RET
  have hown : s.vm.findClass RJ6 = some m.cls := hown
  have hl : lv_has ls 1 [(0, .int v0)] := hl
  clear RET
  rw [fJ6_bitCount_0f7a4] at hf
  refine lv_iload_n hx hb dJ6_bitCount_0f7a4_0 rfl (lv_at hl 0 rfl) ?_
  refine lv_iload_n hx hb dJ6_bitCount_0f7a4_1 rfl (lv_at hl 0 rfl) ?_
  refine lv_iconst (v := (1 : Int32)) hx hb dJ6_bitCount_0f7a4_2 (by decide) ?_
  refine lv_iushr (v := ((v0).toUInt32 >>> (((1 : Int32)).toUInt32 &&& Int32.toUInt32 31)).toInt32) hx hb dJ6_bitCount_0f7a4_3 rfl ?_
  refine lv_ldcw (v := (1431655765 : Int32)) hx hb hown (hts _ lcJ6_265) dJ6_bitCount_0f7a4_4 ?_
  refine lv_iand hx hb dJ6_bitCount_0f7a4_7 ?_
  refine lv_isub hx hb dJ6_bitCount_0f7a4_8 ?_
  refine lv_topi (fun y1 ey1 => ?_)
  have hf := nmeU ey1 hf
  refine lv_istore_n (lv' := [(0, .int y1)]) hx hb dJ6_bitCount_0f7a4_9 rfl hl (by decide) rfl (fun ls hl => ?_)
  refine lv_iload_n hx hb dJ6_bitCount_0f7a4_10 rfl (lv_at hl 0 rfl) ?_
  refine lv_ldcw (v := (858993459 : Int32)) hx hb hown (hts _ lcJ6_266) dJ6_bitCount_0f7a4_11 ?_
  refine lv_iand hx hb dJ6_bitCount_0f7a4_14 ?_
  refine lv_iload_n hx hb dJ6_bitCount_0f7a4_15 rfl (lv_at hl 0 rfl) ?_
  refine lv_iconst (v := (2 : Int32)) hx hb dJ6_bitCount_0f7a4_16 (by decide) ?_
  refine lv_iushr (v := ((y1).toUInt32 >>> (((2 : Int32)).toUInt32 &&& Int32.toUInt32 31)).toInt32) hx hb dJ6_bitCount_0f7a4_17 rfl ?_
  refine lv_ldcw (v := (858993459 : Int32)) hx hb hown (hts _ lcJ6_266) dJ6_bitCount_0f7a4_18 ?_
  refine lv_iand hx hb dJ6_bitCount_0f7a4_21 ?_
  refine lv_iadd hx hb dJ6_bitCount_0f7a4_22 ?_
  refine lv_topi (fun y2 ey2 => ?_)
  have hf := nmeU ey2 hf
  refine lv_istore_n (lv' := [(0, .int y2)]) hx hb dJ6_bitCount_0f7a4_23 rfl hl (by decide) rfl (fun ls hl => ?_)
  refine lv_iload_n hx hb dJ6_bitCount_0f7a4_24 rfl (lv_at hl 0 rfl) ?_
  refine lv_iload_n hx hb dJ6_bitCount_0f7a4_25 rfl (lv_at hl 0 rfl) ?_
  refine lv_iconst (v := (4 : Int32)) hx hb dJ6_bitCount_0f7a4_26 (by decide) ?_
  refine lv_iushr (v := ((y2).toUInt32 >>> (((4 : Int32)).toUInt32 &&& Int32.toUInt32 31)).toInt32) hx hb dJ6_bitCount_0f7a4_27 rfl ?_
  refine lv_iadd hx hb dJ6_bitCount_0f7a4_28 ?_
  refine lv_ldcw (v := (252645135 : Int32)) hx hb hown (hts _ lcJ6_267) dJ6_bitCount_0f7a4_29 ?_
  refine lv_iand hx hb dJ6_bitCount_0f7a4_32 ?_
  refine lv_topi (fun y3 ey3 => ?_)
  have hf := nmeU ey3 hf
  refine lv_istore_n (lv' := [(0, .int y3)]) hx hb dJ6_bitCount_0f7a4_33 rfl hl (by decide) rfl (fun ls hl => ?_)
  refine lv_iload_n hx hb dJ6_bitCount_0f7a4_34 rfl (lv_at hl 0 rfl) ?_
  refine lv_iload_n hx hb dJ6_bitCount_0f7a4_35 rfl (lv_at hl 0 rfl) ?_
  refine lv_bipush (v := (8 : Int32)) hx hb dJ6_bitCount_0f7a4_36 (by decide) ?_
  refine lv_iushr (v := ((y3).toUInt32 >>> (((8 : Int32)).toUInt32 &&& Int32.toUInt32 31)).toInt32) hx hb dJ6_bitCount_0f7a4_38 rfl ?_
  refine lv_iadd hx hb dJ6_bitCount_0f7a4_39 ?_
  refine lv_topi (fun y4 ey4 => ?_)
  have hf := nmeU ey4 hf
  refine lv_istore_n (lv' := [(0, .int y4)]) hx hb dJ6_bitCount_0f7a4_40 rfl hl (by decide) rfl (fun ls hl => ?_)
  refine lv_iload_n hx hb dJ6_bitCount_0f7a4_41 rfl (lv_at hl 0 rfl) ?_
  refine lv_iload_n hx hb dJ6_bitCount_0f7a4_42 rfl (lv_at hl 0 rfl) ?_
  refine lv_bipush (v := (16 : Int32)) hx hb dJ6_bitCount_0f7a4_43 (by decide) ?_
  refine lv_iushr (v := ((y4).toUInt32 >>> (((16 : Int32)).toUInt32 &&& Int32.toUInt32 31)).toInt32) hx hb dJ6_bitCount_0f7a4_45 rfl ?_
  refine lv_iadd hx hb dJ6_bitCount_0f7a4_46 ?_
  refine lv_topi (fun y5 ey5 => ?_)
  have hf := nmeU ey5 hf
  refine lv_istore_n (lv' := [(0, .int y5)]) hx hb dJ6_bitCount_0f7a4_47 rfl hl (by decide) rfl (fun ls hl => ?_)
  refine lv_iload_n hx hb dJ6_bitCount_0f7a4_48 rfl (lv_at hl 0 rfl) ?_
  refine lv_bipush (v := (63 : Int32)) hx hb dJ6_bitCount_0f7a4_49 (by decide) ?_
  refine lv_iand hx hb dJ6_bitCount_0f7a4_51 ?_
  exact RT _ hf _ _ _ dJ6_bitCount_0f7a4_52 (rkI _)
set_option maxHeartbeats 4000000 in
set_option maxRecDepth 100000 in
theorem kX0_commonDivisor (l : Launch) (D : va_G) (G : Nat → ClassId) (fu : Nat) (v0 : Int64) (v2 : Int64) {r : Int64} (hf : fX0_commonDivisor fu v0 v2 = some r) : rO l D G yX0_commonDivisor cX0_commonDivisor 11 (some .long) 1 60 [.long v0, .long v2] [] (some (.long r)) := by
  refine rO_of (by decide) (Nat.le_of_ble_eq_true rfl) ?_
  intro p e s m args below meth c Q hx hb hml hown hts hK hn hP RET ls hl
  have RT : ∀ (a0_ : Int64), some a0_ = some r → ∀ (pc : Nat) (ls : Array Slot) (ins : Instr), decode cX0_commonDivisor pc = .ok (ins, 1) → rk (some .long) (some (.long a0_)) ins → W p l e (kR 1 60) s m args below meth c s.heap [] 0 0 Q (F0 m pc ls [.long a0_]) := by
    intro a0_ hy; obtain rfl := sm1 hy
    exact RET
  have hown : s.vm.findClass RX0 = some m.cls := hown
  have hl : lv_has ls 11 [(0, .long v0), (2, .long v2)] := hl
  clear RET
  rw [fX0_commonDivisor] at hf
  refine lv_lload_n hx hb dX0_commonDivisor_0 rfl (lv_at hl 0 rfl) ?_
  refine lv_lstore (lv' := [(4, .long v0), (0, .long v0), (2, .long v2)]) hx hb dX0_commonDivisor_1 hl (by decide) rfl (fun ls hl => ?_)
  refine lv_lload_n hx hb dX0_commonDivisor_3 rfl (lv_at hl 2 rfl) ?_
  refine lv_lstore (lv' := [(6, .long v2), (4, .long v0), (0, .long v0), (2, .long v2)]) hx hb dX0_commonDivisor_4 hl (by decide) rfl (fun ls hl => ?_)
  refine lv_iconst (v := (0 : Int32)) hx hb dX0_commonDivisor_6 (by decide) ?_
  refine lv_istore (lv' := [(8, .int (0 : Int32)), (6, .long v2), (4, .long v0), (0, .long v0), (2, .long v2)]) hx hb dX0_commonDivisor_7 hl (by decide) rfl (fun ls hl => ?_)
  obtain ⟨u12, h16, hf⟩ := bd1E hf
  have E13 : ∀ (z24 : Int64), some z24 = some u12 → ∀ ls : Array Slot, lv_has ls 11 [(4, .long z24)] → W p l e (kR 1 60) s m args below meth c s.heap [] 0 0 Q (F0 m 44 ls []) := by
    intro z24 hy; obtain rfl := sm1 hy
    intro ls hl
    refine lv_lload hx hb dX0_commonDivisor_44 (lv_at hl 0 rfl) ?_
    exact RT _ hf _ _ _ dX0_commonDivisor_46 (rkL _)
  have L14 : ∀ (k : Nat) (w9 : Int64) (w10 : Int64) (w11 : Int32), fX0_commonDivisor_9 k w9 w10 w11 = some u12 → ∀ ls : Array Slot, lv_has ls 11 [(4, .long w9), (6, .long w10), (8, .int w11)] → W p l e (kR 1 60) s m args below meth c s.heap [] 0 0 Q (F0 m 9 ls []) := by
    intro k; induction k with
    | zero => intro w9 w10 w11 hf; exact nosome hf
    | succ k ih =>
      intro w9 w10 w11 hf; rw [fX0_commonDivisor_9] at hf
      intro ls hl
      refine lv_iload hx hb dX0_commonDivisor_9 (lv_at hl 2 rfl) ?_
      refine lv_bipush (v := (100 : Int32)) hx hb dX0_commonDivisor_11 (by decide) ?_
      refine lv_icmp_ge (tgt := 44) hx hb dX0_commonDivisor_13 (by decide) (fun c19 => ?_) (fun c19 => ?_)
      · have hf := ifp c19 hf
        exact E13 _ hf ls (lv_sub hl [0] rfl)
      · have hf := ifn c19 hf
        refine lv_lload hx hb dX0_commonDivisor_16 (lv_at hl 1 rfl) ?_
        refine lv_lconst (v := (0 : Int64)) hx hb dX0_commonDivisor_18 (by decide) ?_
        refine W.lcmp hx hb dX0_commonDivisor_19 ?_
        refine lv_if_eq (tgt := 44) hx hb dX0_commonDivisor_20 (by decide) (fun c20 => ?_) (fun c20 => ?_)
        · have hf := ifp c20 hf
          exact E13 _ hf ls (lv_sub hl [0] rfl)
        · have hf := ifn c20 hf
          refine lv_lload hx hb dX0_commonDivisor_23 (lv_at hl 0 rfl) ?_
          refine lv_lload hx hb dX0_commonDivisor_25 (lv_at hl 1 rfl) ?_
          obtain ⟨h21, hf⟩ := rmLE hf
          refine lv_lrem hx hb dX0_commonDivisor_27 h21 ?_
          generalize (w9 - w9 / w10 * w10) = x22 at hf ⊢
          refine lv_lstore (lv' := [(9, .long x22), (4, .long w9), (6, .long w10), (8, .int w11)]) hx hb dX0_commonDivisor_28 hl (by decide) rfl (fun ls hl => ?_)
          refine lv_lload hx hb dX0_commonDivisor_30 (lv_at hl 2 rfl) ?_
          refine lv_lstore (lv' := [(4, .long w10), (9, .long x22), (6, .long w10), (8, .int w11)]) hx hb dX0_commonDivisor_32 hl (by decide) rfl (fun ls hl => ?_)
          refine lv_lload hx hb dX0_commonDivisor_34 (lv_at hl 1 rfl) ?_
          refine lv_lstore (lv' := [(6, .long x22), (4, .long w10), (9, .long x22), (8, .int w11)]) hx hb dX0_commonDivisor_36 hl (by decide) rfl (fun ls hl => ?_)
          obtain ⟨y23, ey23⟩ : ∃ y : Int32, y = w11 + (1 : Int32) := ⟨_, rfl⟩
          have hf := nmeU ey23 hf
          refine lv_iinc (v := y23) (lv' := [(8, .int y23), (6, .long x22), (4, .long w10), (9, .long x22)]) hx hb dX0_commonDivisor_38 hl (k := 3) rfl (by rw [ey23]; rfl) (by decide) rfl (fun ls hl => ?_)
          refine lv_goto (tgt := 9) hx hb dX0_commonDivisor_41 (by decide) ?_
          exact ih _ _ _ hf ls (lv_sub hl [2, 1, 0] rfl)
  exact L14 fu v0 v2 (0 : Int32) h16 ls (lv_sub hl [2, 1, 0] rfl)
set_option maxHeartbeats 4000000 in
set_option maxRecDepth 100000 in
theorem kX0_partOf (l : Launch) (D : va_G) (G : Nat → ClassId) (fu : Nat) (q_t : Nat) (q_t_row : Nat) (q_t_nextRow : Nat) (t_scale : Int64) (v1 : Int64) (v3 : Int32) {r : Int64} (hf : fX0_partOf fu t_scale v1 v3 = some r) : rO l D G yX0_partOf cX0_partOf 6 (some .long) 2 90 [.ref q_t, .long v1, .int v3] [(q_t, .inr (0, [.ref q_t_row, .ref q_t_nextRow, .long t_scale]))] (some (.long r)) := by
  refine rO_of (by decide) (Nat.le_of_ble_eq_true rfl) ?_
  intro p e s m args below meth c Q hx hb hml hown hts hK hn hP RET ls hl
  have RT : ∀ (a0_ : Int64), some a0_ = some r → ∀ (pc : Nat) (ls : Array Slot) (ins : Instr), decode cX0_partOf pc = .ok (ins, 1) → rk (some .long) (some (.long a0_)) ins → W p l e (kR 2 90) s m args below meth c s.heap [] 0 0 Q (F0 m pc ls [.long a0_]) := by
    intro a0_ hy; obtain rfl := sm1 hy
    exact RET
  have hown : s.vm.findClass RX0 = some m.cls := hown
  have hl : lv_has ls 6 [(0, .ref q_t), (1, .long v1), (3, .int v3)] := hl
  clear RET
  rw [fX0_partOf] at hf
  refine lv_lload_n hx hb dX0_partOf_0 rfl (lv_at hl 1 rfl) ?_
  refine va_mabs_long hx hb (hml.trans hl.1.symm) hown (hts _ lmX0_55) (hts _ ks_abs_long) (hts _ niJ9) (hts _ kc_abs_long) (Nat.le_of_ble_eq_true rfl) (Nat.le_of_ble_eq_true rfl) (Nat.le_of_ble_eq_true rfl) (Nat.le_of_ble_eq_true rfl) dX0_partOf_1 ?_
  refine lv_topl (fun y1 ey1 => ?_)
  have hf := nmeU ey1 hf
  refine lv_aload_n hx hb dX0_partOf_4 rfl (lv_at hl 0 rfl) ?_
  refine va_get (D := D) (ci := 0) (v := .long t_scale) (C := RX0) (T := TX0) (N := 3) hx hb hts inX0 hown hK hP 0 rfl rfl 2 (by decide) (hts _ lfX0_18) (fun _ h9 => h9) rfl dX0_partOf_5 ?_
  obtain ⟨r2, h3, hf⟩ := bd1E hf
  refine kO_stat hx hb hml hown hts hK hn hP (kX0_commonDivisor l D G fu y1 t_scale h3) csX0_59 ⟨Nat.le_of_ble_eq_true rfl, Nat.le_of_ble_eq_true rfl⟩ [] rfl rfl hl.1 rfl (Nat.le_of_ble_eq_true rfl) ⟨Nat.zero_le _, Nat.zero_le _⟩ dX0_partOf_8 ?_
  refine lv_lstore (lv' := [(4, .long r2), (0, .ref q_t), (1, .long v1), (3, .int v3)]) hx hb dX0_partOf_11 hl (by decide) rfl (fun ls hl => ?_)
  refine lv_lload hx hb dX0_partOf_13 (lv_at hl 0 rfl) ?_
  refine lv_lconst (v := (1 : Int64)) hx hb dX0_partOf_15 (by decide) ?_
  refine W.lcmp hx hb dX0_partOf_16 ?_
  refine lv_if_ge (tgt := 22) hx hb dX0_partOf_17 (by decide) (fun c4 => ?_) (fun c4 => ?_)
  · have hf := ifp c4 hf
    refine lv_iload_n hx hb dX0_partOf_22 rfl (lv_at hl 3 rfl) ?_
    refine lv_if_ne (tgt := 33) hx hb dX0_partOf_23 (by decide) (fun c5 => ?_) (fun c5 => ?_)
    · have hf := ifn c5 hf
      refine lv_aload_n hx hb dX0_partOf_33 rfl (lv_at hl 1 rfl) ?_
      refine va_get (D := D) (ci := 0) (v := .long t_scale) (C := RX0) (T := TX0) (N := 3) hx hb hts inX0 hown hK hP 0 rfl rfl 2 (by decide) (hts _ lfX0_18) (fun _ h9 => h9) rfl dX0_partOf_34 ?_
      refine lv_lload hx hb dX0_partOf_37 (lv_at hl 0 rfl) ?_
      obtain ⟨h6, hf⟩ := dvLE hf
      refine lv_ldiv hx hb dX0_partOf_39 h6 ?_
      generalize (t_scale / r2) = x7 at hf ⊢
      exact RT _ hf _ _ _ dX0_partOf_40 (rkL _)
    · have hf := ifp c5 hf
      refine lv_lload_n hx hb dX0_partOf_26 rfl (lv_at hl 2 rfl) ?_
      refine lv_lload hx hb dX0_partOf_27 (lv_at hl 0 rfl) ?_
      obtain ⟨h8, hf⟩ := dvLE hf
      refine lv_ldiv hx hb dX0_partOf_29 h8 ?_
      generalize (v1 / r2) = x9 at hf ⊢
      refine lv_goto (tgt := 40) hx hb dX0_partOf_30 (by decide) ?_
      exact RT _ hf _ _ _ dX0_partOf_40 (rkL _)
  · have hf := ifn c4 hf
    refine lv_lconst (v := (0 : Int64)) hx hb dX0_partOf_20 (by decide) ?_
    exact RT _ hf _ _ _ dX0_partOf_21 (rkL _)
set_option maxHeartbeats 4000000 in
set_option maxRecDepth 100000 in
theorem kX0_atMost (l : Launch) (D : va_G) (G : Nat → ClassId) (fu : Nat) (q_t : Nat) (q_t_row : Nat) (q_t_nextRow : Nat) (t_scale : Int64) (t_row : Nat → Int64) (v1 : Int32) (v2 : Int32) {r : Int64} (hf : fX0_atMost fu q_t_row t_scale t_row v1 v2 = some r) : rO l D G yX0_atMost cX0_atMost 6 (some .long) 3 115 [.ref q_t, .int v1, .int v2] [(q_t, .inr (0, [.ref q_t_row, .ref q_t_nextRow, .long t_scale])), (q_t_row, .inl (G 1, 21, .inr (.inl t_row)))] (some (.long r)) := by
  refine rO_of (by decide) (Nat.le_of_ble_eq_true rfl) ?_
  intro p e s m args below meth c Q hx hb hml hown hts hK hn hP RET ls hl
  have RT : ∀ (a0_ : Int64), some a0_ = some r → ∀ (pc : Nat) (ls : Array Slot) (ins : Instr), decode cX0_atMost pc = .ok (ins, 1) → rk (some .long) (some (.long a0_)) ins → W p l e (kR 3 115) s m args below meth c s.heap [] 0 0 Q (F0 m pc ls [.long a0_]) := by
    intro a0_ hy; obtain rfl := sm1 hy
    exact RET
  have hown : s.vm.findClass RX0 = some m.cls := hown
  have hl : lv_has ls 6 [(0, .ref q_t), (1, .int v1), (2, .int v2)] := hl
  clear RET
  rw [fX0_atMost] at hf
  refine lv_lconst (v := (0 : Int64)) hx hb dX0_atMost_0 (by decide) ?_
  refine lv_lstore_n (lv' := [(3, .long (0 : Int64)), (0, .ref q_t), (1, .int v1), (2, .int v2)]) hx hb dX0_atMost_1 rfl hl (by decide) rfl (fun ls hl => ?_)
  refine lv_iconst (v := (0 : Int32)) hx hb dX0_atMost_2 (by decide) ?_
  refine lv_istore (lv' := [(5, .int (0 : Int32)), (3, .long (0 : Int64)), (0, .ref q_t), (1, .int v1), (2, .int v2)]) hx hb dX0_atMost_3 hl (by decide) rfl (fun ls hl => ?_)
  obtain ⟨u15, h19, hf⟩ := bd1E hf
  have E16 : ∀ (z26 : Int64), some z26 = some u15 → ∀ ls : Array Slot, lv_has ls 6 [(0, .ref q_t), (2, .int v2), (3, .long z26)] → W p l e (kR 3 115) s m args below meth c s.heap [] 0 0 Q (F0 m 27 ls []) := by
    intro z26 hy; obtain rfl := sm1 hy
    intro ls hl
    refine lv_aload_n hx hb dX0_atMost_27 rfl (lv_at hl 0 rfl) ?_
    refine lv_lload_n hx hb dX0_atMost_28 rfl (lv_at hl 2 rfl) ?_
    refine lv_iload_n hx hb dX0_atMost_29 rfl (lv_at hl 1 rfl) ?_
    obtain ⟨r27, h28, hf⟩ := bd1E hf
    refine kO_virt hx hb hml hown hts hK hn hP (kX0_partOf l D G fu q_t q_t_row q_t_nextRow t_scale z26 v2 h28) cvX0_43 ⟨Nat.le_of_ble_eq_true rfl, Nat.le_of_ble_eq_true rfl⟩ [0] rfl 0 rfl rfl rfl hl.1 rfl (Nat.le_of_ble_eq_true rfl) ⟨Nat.zero_le _, Nat.zero_le _⟩ dX0_atMost_30 ?_
    exact RT _ hf _ _ _ dX0_atMost_33 (rkL _)
  have L17 : ∀ (k : Nat) (w13 : Int64) (w14 : Int32), fX0_atMost_5 v1 t_row k w13 w14 = some u15 → ∀ ls : Array Slot, lv_has ls 6 [(0, .ref q_t), (1, .int v1), (2, .int v2), (3, .long w13), (5, .int w14)] → W p l e (kR 3 115) s m args below meth c s.heap [] 0 0 Q (F0 m 5 ls []) := by
    intro k; induction k with
    | zero => intro w13 w14 hf; exact nosome hf
    | succ k ih =>
      intro w13 w14 hf; rw [fX0_atMost_5] at hf
      intro ls hl
      refine lv_iload hx hb dX0_atMost_5 (lv_at hl 4 rfl) ?_
      refine lv_iload_n hx hb dX0_atMost_7 rfl (lv_at hl 1 rfl) ?_
      refine lv_icmp_gt (tgt := 27) hx hb dX0_atMost_8 (by decide) (fun c22 => ?_) (fun c22 => ?_)
      · have hf := ifp c22 hf
        exact E16 _ hf ls (lv_sub hl [0, 2, 3] rfl)
      · have hf := ifn c22 hf
        refine lv_lload_n hx hb dX0_atMost_11 rfl (lv_at hl 3 rfl) ?_
        refine lv_aload_n hx hb dX0_atMost_12 rfl (lv_at hl 0 rfl) ?_
        refine va_get (D := D) (ci := 0) (v := .ref q_t_row) (C := RX0) (T := TX0) (N := 3) hx hb hts inX0 hown hK hP 0 rfl rfl 0 (by decide) (hts _ lfX0_9) (fun _ h9 => h9) rfl dX0_atMost_13 ?_
        refine lv_iload hx hb dX0_atMost_16 (lv_at hl 4 rfl) ?_
        obtain ⟨x23, ex23, ix23, hf⟩ := ldLE hf
        refine k_lald hx hb hK hP 1 1 rfl rfl ix23 ex23 dX0_atMost_18 ?_
        refine lv_ladd hx hb dX0_atMost_19 ?_
        refine lv_topl (fun y24 ey24 => ?_)
        have hf := nmeU ey24 hf
        refine lv_lstore_n (lv' := [(3, .long y24), (0, .ref q_t), (1, .int v1), (2, .int v2), (5, .int w14)]) hx hb dX0_atMost_20 rfl hl (by decide) rfl (fun ls hl => ?_)
        obtain ⟨y25, ey25⟩ : ∃ y : Int32, y = w14 + (1 : Int32) := ⟨_, rfl⟩
        have hf := nmeU ey25 hf
        refine lv_iinc (v := y25) (lv' := [(5, .int y25), (3, .long y24), (0, .ref q_t), (1, .int v1), (2, .int v2)]) hx hb dX0_atMost_21 hl (k := 4) rfl (by rw [ey25]; rfl) (by decide) rfl (fun ls hl => ?_)
        refine lv_goto (tgt := 5) hx hb dX0_atMost_24 (by decide) ?_
        exact ih _ _ hf ls (lv_sub hl [2, 3, 4, 1, 0] rfl)
  exact L17 fu (0 : Int64) (0 : Int32) h19 ls (lv_sub hl [2, 3, 4, 1, 0] rfl)
set_option maxHeartbeats 4000000 in
set_option maxRecDepth 100000 in
theorem kX0_clearRow (l : Launch) (D : va_G) (G : Nat → ClassId) (fu : Nat) (q_p0 : Nat) (p0 : Nat → Int64) {o_p0 : Nat → Int64} (hf : fX0_clearRow fu p0 = some o_p0) : rW l D G yX0_clearRow cX0_clearRow 2 none 1 60 [.ref q_p0] [(q_p0, .inl (G 1, 21, .inr (.inl p0)))] [(q_p0, .inl (G 1, 21, .inr (.inl o_p0)))] none := by
  refine rW_of (by decide) (Nat.le_of_ble_eq_true rfl) ?_
  intro p e s m args below meth c Q A hx hb hml hown hts hK hn hA RET H locs hP hD hS ls hl
  have RT : ∀ (a0_ : Nat → Int64), some a0_ = some o_p0 → ∀ (pc : Nat) (ls : Array Slot) (ins : Instr) (H : Heap) (locs : List Loc), decode cX0_clearRow pc = .ok (ins, 1) → rk none none ins → va_P D vwCl [(q_p0, .inl (G 1, 21, .inr (.inl a0_)))] H → va_D A [(q_p0, .inl (G 1, 21, .inr (.inl a0_)))] → va_S A s.heap H locs → W p l e (kR 1 60) s m args below meth c H locs 0 0 Q (F0 m pc ls []) := by
    intro a0_ hy; obtain rfl := sm1 hy
    exact RET
  have hown : s.vm.findClass RX0 = some m.cls := hown
  have hl : lv_has ls 2 [(0, .ref q_p0)] := hl
  clear RET
  rw [fX0_clearRow] at hf
  refine lv_iconst (v := (0 : Int32)) hx hb dX0_clearRow_0 (by decide) ?_
  refine lv_istore_n (lv' := [(1, .int (0 : Int32)), (0, .ref q_p0)]) hx hb dX0_clearRow_1 rfl hl (by decide) rfl (fun ls hl => ?_)
  obtain ⟨u8, h12, hf⟩ := bd1E hf
  have E9 : ∀ (z18 : Nat → Int64), some z18 = some u8 → ∀ (H : Heap) (locs : List Loc), va_P D vwCl [(q_p0, .inl (G 1, 21, .inr (.inl z18)))] H → va_D A [(q_p0, .inl (G 1, 21, .inr (.inl z18)))] → va_S A s.heap H locs → ∀ ls : Array Slot, lv_has ls 2 [] → W p l e (kR 1 60) s m args below meth c H locs 0 0 Q (F0 m 18 ls []) := by
    intro z18 hy; obtain rfl := sm1 hy
    intro H locs hP hD hS ls hl
    exact RT _ hf _ _ _ H locs dX0_clearRow_18 rkV hP hD hS
  have L10 : ∀ (k : Nat) (w6 : Int32) (w7 : Nat → Int64), fX0_clearRow_2 k w6 w7 = some u8 → ∀ (H : Heap) (locs : List Loc), va_P D vwCl [(q_p0, .inl (G 1, 21, .inr (.inl w7)))] H → va_D A [(q_p0, .inl (G 1, 21, .inr (.inl w7)))] → va_S A s.heap H locs → ∀ ls : Array Slot, lv_has ls 2 [(0, .ref q_p0), (1, .int w6)] → W p l e (kR 1 60) s m args below meth c H locs 0 0 Q (F0 m 2 ls []) := by
    intro k; induction k with
    | zero => intro w6 w7 hf; exact nosome hf
    | succ k ih =>
      intro w6 w7 hf; rw [fX0_clearRow_2] at hf
      intro H locs hP hD hS ls hl
      refine lv_iload_n hx hb dX0_clearRow_2 rfl (lv_at hl 1 rfl) ?_
      refine lv_aload_n hx hb dX0_clearRow_3 rfl (lv_at hl 0 rfl) ?_
      refine va_alen (v := (21 : Int32)) (ty := .long) hx hb hK hP 0 1 rfl rfl rfl dX0_clearRow_4 ?_
      refine lv_icmp_ge (tgt := 18) hx hb dX0_clearRow_5 (by decide) (fun c15 => ?_) (fun c15 => ?_)
      · have hf := ifp c15 hf
        exact E9 _ hf H locs hP hD hS ls (lv_sub hl [] rfl)
      · have hf := ifn c15 hf
        refine lv_aload_n hx hb dX0_clearRow_8 rfl (lv_at hl 0 rfl) ?_
        refine lv_iload_n hx hb dX0_clearRow_9 rfl (lv_at hl 1 rfl) ?_
        refine lv_lconst (v := (0 : Int64)) hx hb dX0_clearRow_10 (by decide) ?_
        obtain ⟨g16, eg16, ig16, hf⟩ := stLE hf
        refine k_last hx hb hK hP hD hS 0 1 rfl rfl ig16 eg16 dX0_clearRow_11 (fun H locs hP hD hS => ?_)
        have hP : va_P D vwCl [(q_p0, .inl (G 1, 21, .inr (.inl g16)))] H := hP
        have hD : va_D A [(q_p0, .inl (G 1, 21, .inr (.inl g16)))] := hD
        obtain ⟨y17, ey17⟩ : ∃ y : Int32, y = w6 + (1 : Int32) := ⟨_, rfl⟩
        have hf := nmeU ey17 hf
        refine lv_iinc (v := y17) (lv' := [(1, .int y17), (0, .ref q_p0)]) hx hb dX0_clearRow_12 hl (k := 1) rfl (by rw [ey17]; rfl) (by decide) rfl (fun ls hl => ?_)
        refine lv_goto (tgt := 2) hx hb dX0_clearRow_15 (by decide) ?_
        exact ih _ _ hf H locs hP hD hS ls (lv_sub hl [1, 0] rfl)
  exact L10 fu (0 : Int32) p0 h12 H locs hP hD hS ls (lv_sub hl [1, 0] rfl)
set_option maxHeartbeats 4000000 in
set_option maxRecDepth 100000 in
theorem kX0_paidNow (l : Launch) (D : va_G) (G : Nat → ClassId) (q_t : Nat) (q_t_row : Nat) (q_t_nextRow : Nat) (t_scale : Int64) (v1 : Int32) {r : Int64} (hf : fX0_paidNow t_scale v1 = some r) : rO l D G yX0_paidNow cX0_paidNow 2 (some .long) 1 60 [.ref q_t, .int v1] [(q_t, .inr (0, [.ref q_t_row, .ref q_t_nextRow, .long t_scale]))] (some (.long r)) := by
  refine rO_of (by decide) (Nat.le_of_ble_eq_true rfl) ?_
  intro p e s m args below meth c Q hx hb hml hown hts hK hn hP RET ls hl
  have RT : ∀ (a0_ : Int64), some a0_ = some r → ∀ (pc : Nat) (ls : Array Slot) (ins : Instr), decode cX0_paidNow pc = .ok (ins, 1) → rk (some .long) (some (.long a0_)) ins → W p l e (kR 1 60) s m args below meth c s.heap [] 0 0 Q (F0 m pc ls [.long a0_]) := by
    intro a0_ hy; obtain rfl := sm1 hy
    exact RET
  have hown : s.vm.findClass RX0 = some m.cls := hown
  have hl : lv_has ls 2 [(0, .ref q_t), (1, .int v1)] := hl
  clear RET
  rw [fX0_paidNow] at hf
  refine lv_bipush (v := (10 : Int32)) hx hb dX0_paidNow_0 (by decide) ?_
  refine lv_iload_n hx hb dX0_paidNow_2 rfl (lv_at hl 1 rfl) ?_
  refine lv_isub hx hb dX0_paidNow_3 ?_
  refine lv_i2l (v := (((10 : Int32) - v1)).toInt64) hx hb dX0_paidNow_4 rfl ?_
  refine lv_aload_n hx hb dX0_paidNow_5 rfl (lv_at hl 0 rfl) ?_
  refine va_get (D := D) (ci := 0) (v := .long t_scale) (C := RX0) (T := TX0) (N := 3) hx hb hts inX0 hown hK hP 0 rfl rfl 2 (by decide) (hts _ lfX0_18) (fun _ h9 => h9) rfl dX0_paidNow_6 ?_
  refine lv_lmul hx hb dX0_paidNow_9 ?_
  exact RT _ hf _ _ _ dX0_paidNow_10 (rkL _)
set_option maxHeartbeats 4000000 in
set_option maxRecDepth 100000 in
theorem kX0_isSentAtOnce (l : Launch) (D : va_G) (G : Nat → ClassId) (q_t : Nat) (q_t_row : Nat) (q_t_nextRow : Nat) (t_scale : Int64) (t_row : Nat → Int64) (v1 : Int32) {r : Int32} (hf : fX0_isSentAtOnce q_t_row t_scale t_row v1 = some r) : rO l D G yX0_isSentAtOnce cX0_isSentAtOnce 2 (some .boolean) 2 81 [.ref q_t, .int v1] [(q_t, .inr (0, [.ref q_t_row, .ref q_t_nextRow, .long t_scale])), (q_t_row, .inl (G 1, 21, .inr (.inl t_row)))] (some (.int r)) := by
  refine rO_of (by decide) (Nat.le_of_ble_eq_true rfl) ?_
  intro p e s m args below meth c Q hx hb hml hown hts hK hn hP RET ls hl
  have RT : ∀ (a0_ : Int32), some a0_ = some r → ∀ (pc : Nat) (ls : Array Slot) (ins : Instr), decode cX0_isSentAtOnce pc = .ok (ins, 1) → rk (some .boolean) (some (.int a0_)) ins → W p l e (kR 2 81) s m args below meth c s.heap [] 0 0 Q (F0 m pc ls [.int a0_]) := by
    intro a0_ hy; obtain rfl := sm1 hy
    exact RET
  have hown : s.vm.findClass RX0 = some m.cls := hown
  have hl : lv_has ls 2 [(0, .ref q_t), (1, .int v1)] := hl
  clear RET
  rw [fX0_isSentAtOnce] at hf
  refine lv_aload_n hx hb dX0_isSentAtOnce_0 rfl (lv_at hl 0 rfl) ?_
  refine va_get (D := D) (ci := 0) (v := .ref q_t_row) (C := RX0) (T := TX0) (N := 3) hx hb hts inX0 hown hK hP 0 rfl rfl 0 (by decide) (hts _ lfX0_9) (fun _ h9 => h9) rfl dX0_isSentAtOnce_1 ?_
  refine lv_iload_n hx hb dX0_isSentAtOnce_4 rfl (lv_at hl 1 rfl) ?_
  obtain ⟨x1, ex1, ix1, hf⟩ := ldLE hf
  refine k_lald hx hb hK hP 1 1 rfl rfl ix1 ex1 dX0_isSentAtOnce_5 ?_
  refine lv_aload_n hx hb dX0_isSentAtOnce_6 rfl (lv_at hl 0 rfl) ?_
  refine lv_iload_n hx hb dX0_isSentAtOnce_7 rfl (lv_at hl 1 rfl) ?_
  obtain ⟨r2, h3, hf⟩ := bd1E hf
  refine kO_virt hx hb hml hown hts hK hn hP (kX0_paidNow l D G q_t q_t_row q_t_nextRow t_scale v1 h3) cvX0_33 ⟨Nat.le_of_ble_eq_true rfl, Nat.le_of_ble_eq_true rfl⟩ [0] rfl 0 rfl rfl rfl hl.1 rfl (Nat.le_of_ble_eq_true rfl) ⟨Nat.zero_le _, Nat.zero_le _⟩ dX0_isSentAtOnce_8 ?_
  refine W.lcmp hx hb dX0_isSentAtOnce_11 ?_
  refine lv_if_ne (tgt := 19) hx hb dX0_isSentAtOnce_12 (by decide) (fun c4 => ?_) (fun c4 => ?_)
  · have hf := ifn c4 hf
    refine lv_iconst (v := (0 : Int32)) hx hb dX0_isSentAtOnce_19 (by decide) ?_
    exact RT _ hf _ _ _ dX0_isSentAtOnce_20 (rkZ (Or.inl rfl))
  · have hf := ifp c4 hf
    refine lv_iconst (v := (1 : Int32)) hx hb dX0_isSentAtOnce_15 (by decide) ?_
    refine lv_goto (tgt := 20) hx hb dX0_isSentAtOnce_16 (by decide) ?_
    exact RT _ hf _ _ _ dX0_isSentAtOnce_20 (rkZ (Or.inr rfl))
set_option maxHeartbeats 4000000 in
set_option maxRecDepth 100000 in
theorem kX0_meanFor (l : Launch) (D : va_G) (G : Nat → ClassId) (fu : Nat) (q_t : Nat) (q_t_row : Nat) (q_t_nextRow : Nat) (t_scale : Int64) (t_row : Nat → Int64) (v1 : Int32) (v2 : Int32) {r : Int64} (hf : fX0_meanFor fu q_t_row t_scale t_row v1 v2 = some r) : rO l D G yX0_meanFor cX0_meanFor 3 (some .long) 3 115 [.ref q_t, .int v1, .int v2] [(q_t, .inr (0, [.ref q_t_row, .ref q_t_nextRow, .long t_scale])), (q_t_row, .inl (G 1, 21, .inr (.inl t_row)))] (some (.long r)) := by
  refine rO_of (by decide) (Nat.le_of_ble_eq_true rfl) ?_
  intro p e s m args below meth c Q hx hb hml hown hts hK hn hP RET ls hl
  have RT : ∀ (a0_ : Int64), some a0_ = some r → ∀ (pc : Nat) (ls : Array Slot) (ins : Instr), decode cX0_meanFor pc = .ok (ins, 1) → rk (some .long) (some (.long a0_)) ins → W p l e (kR 3 115) s m args below meth c s.heap [] 0 0 Q (F0 m pc ls [.long a0_]) := by
    intro a0_ hy; obtain rfl := sm1 hy
    exact RET
  have hown : s.vm.findClass RX0 = some m.cls := hown
  have hl : lv_has ls 3 [(0, .ref q_t), (1, .int v1), (2, .int v2)] := hl
  clear RET
  rw [fX0_meanFor] at hf
  refine lv_aload_n hx hb dX0_meanFor_0 rfl (lv_at hl 0 rfl) ?_
  refine lv_aload_n hx hb dX0_meanFor_1 rfl (lv_at hl 0 rfl) ?_
  refine va_get (D := D) (ci := 0) (v := .ref q_t_row) (C := RX0) (T := TX0) (N := 3) hx hb hts inX0 hown hK hP 0 rfl rfl 0 (by decide) (hts _ lfX0_9) (fun _ h9 => h9) rfl dX0_meanFor_2 ?_
  refine lv_iload_n hx hb dX0_meanFor_5 rfl (lv_at hl 1 rfl) ?_
  obtain ⟨x1, ex1, ix1, hf⟩ := ldLE hf
  refine k_lald hx hb hK hP 1 1 rfl rfl ix1 ex1 dX0_meanFor_6 ?_
  refine lv_iload_n hx hb dX0_meanFor_7 rfl (lv_at hl 2 rfl) ?_
  obtain ⟨r2, h3, hf⟩ := bd1E hf
  refine kO_virt hx hb hml hown hts hK hn hP (kX0_partOf l D G fu q_t q_t_row q_t_nextRow t_scale x1 v2 h3) cvX0_43 ⟨Nat.le_of_ble_eq_true rfl, Nat.le_of_ble_eq_true rfl⟩ [0] rfl 0 rfl rfl rfl hl.1 rfl (Nat.le_of_ble_eq_true rfl) ⟨Nat.zero_le _, Nat.zero_le _⟩ dX0_meanFor_8 ?_
  exact RT _ hf _ _ _ dX0_meanFor_11 (rkL _)
set_option maxHeartbeats 4000000 in
set_option maxRecDepth 100000 in
theorem kX7_withinIll (l : Launch) (D : va_G) (G : Nat → ClassId) (v0 : Int32) {r : Int32} (hf : fX7_withinIll v0 = some r) : rO l D G yX7_withinIll cX7_withinIll 1 (some .int) 1 60 [.int v0] [] (some (.int r)) := by
  refine rO_of (by decide) (Nat.le_of_ble_eq_true rfl) ?_
  intro p e s m args below meth c Q hx hb hml hown hts hK hn hP RET ls hl
  have RT : ∀ (a0_ : Int32), some a0_ = some r → ∀ (pc : Nat) (ls : Array Slot) (ins : Instr), decode cX7_withinIll pc = .ok (ins, 1) → rk (some .int) (some (.int a0_)) ins → W p l e (kR 1 60) s m args below meth c s.heap [] 0 0 Q (F0 m pc ls [.int a0_]) := by
    intro a0_ hy; obtain rfl := sm1 hy
    exact RET
  have hown : s.vm.findClass RX7 = some m.cls := hown
  have hl : lv_has ls 1 [(0, .int v0)] := hl
  clear RET
  rw [fX7_withinIll] at hf
  refine lv_iload_n hx hb dX7_withinIll_0 rfl (lv_at hl 0 rfl) ?_
  refine lv_if_ge (tgt := 6) hx hb dX7_withinIll_1 (by decide) (fun c1 => ?_) (fun c1 => ?_)
  · have hf := ifp c1 hf
    refine lv_iload_n hx hb dX7_withinIll_6 rfl (lv_at hl 0 rfl) ?_
    refine lv_bipush (v := (20 : Int32)) hx hb dX7_withinIll_7 (by decide) ?_
    refine lv_icmp_le (tgt := 17) hx hb dX7_withinIll_9 (by decide) (fun c2 => ?_) (fun c2 => ?_)
    · have hf := ifp c2 hf
      refine lv_iload_n hx hb dX7_withinIll_17 rfl (lv_at hl 0 rfl) ?_
      exact RT _ hf _ _ _ dX7_withinIll_18 (rkI _)
    · have hf := ifn c2 hf
      refine lv_bipush (v := (20 : Int32)) hx hb dX7_withinIll_12 (by decide) ?_
      refine lv_goto (tgt := 18) hx hb dX7_withinIll_14 (by decide) ?_
      exact RT _ hf _ _ _ dX7_withinIll_18 (rkI _)
  · have hf := ifn c1 hf
    refine lv_iconst (v := (0 : Int32)) hx hb dX7_withinIll_4 (by decide) ?_
    exact RT _ hf _ _ _ dX7_withinIll_5 (rkI _)
set_option maxHeartbeats 4000000 in
set_option maxRecDepth 100000 in
theorem kX0_swapRows (l : Launch) (D : va_G) (G : Nat → ClassId) (q_t : Nat) (q_t_row : Nat) (q_t_nextRow : Nat) (t_scale : Int64) (t_row : Nat → Int64) (t_nextRow : Nat → Int64) {o_q_t_row : Nat} {o_q_t_nextRow : Nat} {o_t_row : Nat → Int64} {o_t_nextRow : Nat → Int64} (hf : fX0_swapRows q_t_row q_t_nextRow t_row t_nextRow = some (o_q_t_row, o_q_t_nextRow, o_t_row, o_t_nextRow)) : rW l D G yX0_swapRows cX0_swapRows 2 none 1 60 [.ref q_t] [(q_t, .inr (0, [.ref q_t_row, .ref q_t_nextRow, .long t_scale])), (q_t_row, .inl (G 1, 21, .inr (.inl t_row))), (q_t_nextRow, .inl (G 1, 21, .inr (.inl t_nextRow)))] [(q_t, .inr (0, [.ref o_q_t_row, .ref o_q_t_nextRow, .long t_scale])), (o_q_t_row, .inl (G 1, 21, .inr (.inl o_t_row))), (o_q_t_nextRow, .inl (G 1, 21, .inr (.inl o_t_nextRow)))] none := by
  refine rW_of (by decide) (Nat.le_of_ble_eq_true rfl) ?_
  intro p e s m args below meth c Q A hx hb hml hown hts hK hn hA RET H locs hP hD hS ls hl
  have RT : ∀ (a0_ : Nat) (a1_ : Nat) (a2_ : Nat → Int64) (a3_ : Nat → Int64), some (a0_, a1_, a2_, a3_) = some (o_q_t_row, o_q_t_nextRow, o_t_row, o_t_nextRow) → ∀ (pc : Nat) (ls : Array Slot) (ins : Instr) (H : Heap) (locs : List Loc), decode cX0_swapRows pc = .ok (ins, 1) → rk none none ins → va_P D vwCl [(q_t, .inr (0, [.ref a0_, .ref a1_, .long t_scale])), (a0_, .inl (G 1, 21, .inr (.inl a2_))), (a1_, .inl (G 1, 21, .inr (.inl a3_)))] H → va_D A [(q_t, .inr (0, [.ref a0_, .ref a1_, .long t_scale])), (a0_, .inl (G 1, 21, .inr (.inl a2_))), (a1_, .inl (G 1, 21, .inr (.inl a3_)))] → va_S A s.heap H locs → W p l e (kR 1 60) s m args below meth c H locs 0 0 Q (F0 m pc ls []) := by
    intro a0_ a1_ a2_ a3_ hy; obtain ⟨rfl, rfl, rfl, rfl⟩ := sm4 hy
    exact RET
  have hown : s.vm.findClass RX0 = some m.cls := hown
  have hl : lv_has ls 2 [(0, .ref q_t)] := hl
  clear RET
  rw [fX0_swapRows] at hf
  refine lv_aload_n hx hb dX0_swapRows_0 rfl (lv_at hl 0 rfl) ?_
  refine va_get (D := D) (ci := 0) (v := .ref q_t_row) (C := RX0) (T := TX0) (N := 3) hx hb hts inX0 hown hK hP 0 rfl rfl 0 (by decide) (hts _ lfX0_9) (fun _ h9 => h9) rfl dX0_swapRows_1 ?_
  refine lv_astore_n (lv' := [(1, .ref q_t_row), (0, .ref q_t)]) hx hb dX0_swapRows_4 rfl hl (by decide) rfl (fun ls hl => ?_)
  refine lv_aload_n hx hb dX0_swapRows_5 rfl (lv_at hl 1 rfl) ?_
  refine lv_aload_n hx hb dX0_swapRows_6 rfl (lv_at hl 1 rfl) ?_
  refine va_get (D := D) (ci := 0) (v := .ref q_t_nextRow) (C := RX0) (T := TX0) (N := 3) hx hb hts inX0 hown hK hP 0 rfl rfl 1 (by decide) (hts _ lfX0_15) (fun _ h9 => h9) rfl dX0_swapRows_7 ?_
  refine va_put (D := D) (ci := 0) (v := .ref q_t_nextRow) (ty := .array .long) (C := RX0) (T := TX0) (N := 3) hx hb hts inX0 tyX0 tyX0_ok nmX0 hown hK hP hD hS 0 rfl rfl 0 (by decide) (hts _ lfX0_9) (fun _ h9 => h9) rfl (tyX0_ok 0 (by decide)) rfl rfl (Nat.le_of_ble_eq_true rfl) dX0_swapRows_10 (fun H locs hP hD hS => ?_)
  have hP : va_P D vwCl [(q_t, .inr (0, [.ref q_t_nextRow, .ref q_t_nextRow, .long t_scale])), (q_t_row, .inl (G 1, 21, .inr (.inl t_row))), (q_t_nextRow, .inl (G 1, 21, .inr (.inl t_nextRow)))] H := hP
  have hD : va_D A [(q_t, .inr (0, [.ref q_t_nextRow, .ref q_t_nextRow, .long t_scale])), (q_t_row, .inl (G 1, 21, .inr (.inl t_row))), (q_t_nextRow, .inl (G 1, 21, .inr (.inl t_nextRow)))] := hD
  refine lv_aload_n hx hb dX0_swapRows_13 rfl (lv_at hl 1 rfl) ?_
  refine lv_aload_n hx hb dX0_swapRows_14 rfl (lv_at hl 0 rfl) ?_
  refine va_put (D := D) (ci := 0) (v := .ref q_t_row) (ty := .array .long) (C := RX0) (T := TX0) (N := 3) hx hb hts inX0 tyX0 tyX0_ok nmX0 hown hK hP hD hS 0 rfl rfl 1 (by decide) (hts _ lfX0_15) (fun _ h9 => h9) rfl (tyX0_ok 1 (by decide)) rfl rfl (Nat.le_of_ble_eq_true rfl) dX0_swapRows_15 (fun H locs hP hD hS => ?_)
  have hP : va_P D vwCl [(q_t, .inr (0, [.ref q_t_nextRow, .ref q_t_row, .long t_scale])), (q_t_row, .inl (G 1, 21, .inr (.inl t_row))), (q_t_nextRow, .inl (G 1, 21, .inr (.inl t_nextRow)))] H := hP
  have hD : va_D A [(q_t, .inr (0, [.ref q_t_nextRow, .ref q_t_row, .long t_scale])), (q_t_row, .inl (G 1, 21, .inr (.inl t_row))), (q_t_nextRow, .inl (G 1, 21, .inr (.inl t_nextRow)))] := hD
  exact RT _ _ _ _ hf _ _ _ H locs dX0_swapRows_18 rkV (hP.sub [0, 2, 1] rfl) (hD.sub [0, 2, 1] (by decide) rfl) hS
set_option maxHeartbeats 4000000 in
set_option maxRecDepth 100000 in
theorem kX0_spreadDamp (l : Launch) (D : va_G) (G : Nat → ClassId) (fu : Nat) (q_t : Nat) (q_t_row : Nat) (q_t_nextRow : Nat) (t_scale : Int64) (t_row : Nat → Int64) (t_nextRow : Nat → Int64) (v1 : Int32) (v2 : Int32) (v3 : Int32) (v4 : Int32) {o_q_t_row : Nat} {o_q_t_nextRow : Nat} {o_t_scale : Int64} {o_t_row : Nat → Int64} {o_t_nextRow : Nat → Int64} (hf : fX0_spreadDamp fu q_t_row q_t_nextRow t_scale t_row t_nextRow v1 v2 v3 v4 = some (o_q_t_row, o_q_t_nextRow, o_t_scale, o_t_row, o_t_nextRow)) : rW l D G yX0_spreadDamp cX0_spreadDamp 7 none 2 81 [.ref q_t, .int v1, .int v2, .int v3, .int v4] [(q_t, .inr (0, [.ref q_t_row, .ref q_t_nextRow, .long t_scale])), (q_t_row, .inl (G 1, 21, .inr (.inl t_row))), (q_t_nextRow, .inl (G 1, 21, .inr (.inl t_nextRow)))] [(q_t, .inr (0, [.ref o_q_t_row, .ref o_q_t_nextRow, .long o_t_scale])), (o_q_t_row, .inl (G 1, 21, .inr (.inl o_t_row))), (o_q_t_nextRow, .inl (G 1, 21, .inr (.inl o_t_nextRow)))] none := by
  refine rW_of (by decide) (Nat.le_of_ble_eq_true rfl) ?_
  intro p e s m args below meth c Q A hx hb hml hown hts hK hn hA RET H locs hP hD hS ls hl
  have RT : ∀ (a0_ : Nat) (a1_ : Nat) (a2_ : Int64) (a3_ : Nat → Int64) (a4_ : Nat → Int64), some (a0_, a1_, a2_, a3_, a4_) = some (o_q_t_row, o_q_t_nextRow, o_t_scale, o_t_row, o_t_nextRow) → ∀ (pc : Nat) (ls : Array Slot) (ins : Instr) (H : Heap) (locs : List Loc), decode cX0_spreadDamp pc = .ok (ins, 1) → rk none none ins → va_P D vwCl [(q_t, .inr (0, [.ref a0_, .ref a1_, .long a2_])), (a0_, .inl (G 1, 21, .inr (.inl a3_))), (a1_, .inl (G 1, 21, .inr (.inl a4_)))] H → va_D A [(q_t, .inr (0, [.ref a0_, .ref a1_, .long a2_])), (a0_, .inl (G 1, 21, .inr (.inl a3_))), (a1_, .inl (G 1, 21, .inr (.inl a4_)))] → va_S A s.heap H locs → W p l e (kR 2 81) s m args below meth c H locs 0 0 Q (F0 m pc ls []) := by
    intro a0_ a1_ a2_ a3_ a4_ hy; obtain ⟨rfl, rfl, rfl, rfl, rfl⟩ := sm5 hy
    exact RET
  have hown : s.vm.findClass RX0 = some m.cls := hown
  have hl : lv_has ls 7 [(0, .ref q_t), (1, .int v1), (2, .int v2), (3, .int v3), (4, .int v4)] := hl
  clear RET
  rw [fX0_spreadDamp] at hf
  refine lv_aload_n hx hb dX0_spreadDamp_0 rfl (lv_at hl 0 rfl) ?_
  refine lv_lconst (v := (1 : Int64)) hx hb dX0_spreadDamp_1 (by decide) ?_
  refine va_put (D := D) (ci := 0) (v := .long (1 : Int64)) (ty := .long) (C := RX0) (T := TX0) (N := 3) hx hb hts inX0 tyX0 tyX0_ok nmX0 hown hK hP hD hS 0 rfl rfl 2 (by decide) (hts _ lfX0_18) (fun _ h9 => h9) rfl (tyX0_ok 2 (by decide)) rfl rfl (Nat.le_of_ble_eq_true rfl) dX0_spreadDamp_2 (fun H locs hP hD hS => ?_)
  have hP : va_P D vwCl [(q_t, .inr (0, [.ref q_t_row, .ref q_t_nextRow, .long (1 : Int64)])), (q_t_row, .inl (G 1, 21, .inr (.inl t_row))), (q_t_nextRow, .inl (G 1, 21, .inr (.inl t_nextRow)))] H := hP
  have hD : va_D A [(q_t, .inr (0, [.ref q_t_row, .ref q_t_nextRow, .long (1 : Int64)])), (q_t_row, .inl (G 1, 21, .inr (.inl t_row))), (q_t_nextRow, .inl (G 1, 21, .inr (.inl t_nextRow)))] := hD
  refine lv_aload_n hx hb dX0_spreadDamp_5 rfl (lv_at hl 0 rfl) ?_
  refine va_get (D := D) (ci := 0) (v := .ref q_t_row) (C := RX0) (T := TX0) (N := 3) hx hb hts inX0 hown hK hP 0 rfl rfl 0 (by decide) (hts _ lfX0_9) (fun _ h9 => h9) rfl dX0_spreadDamp_6 ?_
  obtain ⟨o1, h2, hf⟩ := bd1E hf
  refine kW_stat0 hx hb hml hown hts hK hn hA hP hD hS (kX0_clearRow l D G fu q_t_row t_row h2) csX0_47 ⟨Nat.le_of_ble_eq_true rfl, Nat.le_of_ble_eq_true rfl⟩ [1] rfl rfl [false, true] rfl (w3 := [(q_t_row, .inl (G 1, 21, .inr (.inl o1)))]) [0] rfl rfl rfl hl.1 rfl (Nat.le_of_ble_eq_true rfl) ⟨Nat.zero_le _, Nat.zero_le _⟩ dX0_spreadDamp_9 (fun H locs hP hD hS => ?_)
  have hP : va_P D vwCl [(q_t, .inr (0, [.ref q_t_row, .ref q_t_nextRow, .long (1 : Int64)])), (q_t_row, .inl (G 1, 21, .inr (.inl o1))), (q_t_nextRow, .inl (G 1, 21, .inr (.inl t_nextRow)))] H := hP
  have hD : va_D A [(q_t, .inr (0, [.ref q_t_row, .ref q_t_nextRow, .long (1 : Int64)])), (q_t_row, .inl (G 1, 21, .inr (.inl o1))), (q_t_nextRow, .inl (G 1, 21, .inr (.inl t_nextRow)))] := hD
  refine lv_aload_n hx hb dX0_spreadDamp_12 rfl (lv_at hl 0 rfl) ?_
  refine va_get (D := D) (ci := 0) (v := .ref q_t_row) (C := RX0) (T := TX0) (N := 3) hx hb hts inX0 hown hK hP 0 rfl rfl 0 (by decide) (hts _ lfX0_9) (fun _ h9 => h9) rfl dX0_spreadDamp_13 ?_
  refine lv_iload_n hx hb dX0_spreadDamp_16 rfl (lv_at hl 1 rfl) ?_
  refine lv_lconst (v := (1 : Int64)) hx hb dX0_spreadDamp_17 (by decide) ?_
  obtain ⟨g3, eg3, ig3, hf⟩ := stLE hf
  refine k_last hx hb hK hP hD hS 1 1 rfl rfl ig3 eg3 dX0_spreadDamp_18 (fun H locs hP hD hS => ?_)
  have hP : va_P D vwCl [(q_t, .inr (0, [.ref q_t_row, .ref q_t_nextRow, .long (1 : Int64)])), (q_t_row, .inl (G 1, 21, .inr (.inl g3))), (q_t_nextRow, .inl (G 1, 21, .inr (.inl t_nextRow)))] H := hP
  have hD : va_D A [(q_t, .inr (0, [.ref q_t_row, .ref q_t_nextRow, .long (1 : Int64)])), (q_t_row, .inl (G 1, 21, .inr (.inl g3))), (q_t_nextRow, .inl (G 1, 21, .inr (.inl t_nextRow)))] := hD
  refine lv_iconst (v := (0 : Int32)) hx hb dX0_spreadDamp_19 (by decide) ?_
  refine lv_istore (lv' := [(5, .int (0 : Int32)), (0, .ref q_t), (1, .int v1), (2, .int v2), (3, .int v3), (4, .int v4)]) hx hb dX0_spreadDamp_20 hl (by decide) rfl (fun ls hl => ?_)
  obtain ⟨u73, u74, u75, u76, u77, h81, hf⟩ := bd5E hf
  have E78 : ∀ (z138 : Nat) (z139 : Nat) (z140 : Int64) (z141 : Nat → Int64) (z142 : Nat → Int64), some (z138, z139, z140, z141, z142) = some (u73, u74, u75, u76, u77) → ∀ (H : Heap) (locs : List Loc), va_P D vwCl [(q_t, .inr (0, [.ref z138, .ref z139, .long z140])), (z138, .inl (G 1, 21, .inr (.inl z141))), (z139, .inl (G 1, 21, .inr (.inl z142)))] H → va_D A [(q_t, .inr (0, [.ref z138, .ref z139, .long z140])), (z138, .inl (G 1, 21, .inr (.inl z141))), (z139, .inl (G 1, 21, .inr (.inl z142)))] → va_S A s.heap H locs → ∀ ls : Array Slot, lv_has ls 7 [] → W p l e (kR 2 81) s m args below meth c H locs 0 0 Q (F0 m 130 ls []) := by
    intro z138 z139 z140 z141 z142 hy; obtain ⟨rfl, rfl, rfl, rfl, rfl⟩ := sm5 hy
    intro H locs hP hD hS ls hl
    exact RT _ _ _ _ _ hf _ _ _ H locs dX0_spreadDamp_130 rkV hP hD hS
  have L79 : ∀ (k : Nat) (w67 : Int32) (w68 : Nat) (w69 : Nat) (w70 : Int64) (w71 : Nat → Int64) (w72 : Nat → Int64), fX0_spreadDamp_22 fu v3 v2 v4 k w67 w68 w69 w70 w71 w72 = some (u73, u74, u75, u76, u77) → ∀ (H : Heap) (locs : List Loc), va_P D vwCl [(q_t, .inr (0, [.ref w68, .ref w69, .long w70])), (w68, .inl (G 1, 21, .inr (.inl w71))), (w69, .inl (G 1, 21, .inr (.inl w72)))] H → va_D A [(q_t, .inr (0, [.ref w68, .ref w69, .long w70])), (w68, .inl (G 1, 21, .inr (.inl w71))), (w69, .inl (G 1, 21, .inr (.inl w72)))] → va_S A s.heap H locs → ∀ ls : Array Slot, lv_has ls 7 [(0, .ref q_t), (2, .int v2), (3, .int v3), (4, .int v4), (5, .int w67)] → W p l e (kR 2 81) s m args below meth c H locs 0 0 Q (F0 m 22 ls []) := by
    intro k; induction k with
    | zero => intro w67 w68 w69 w70 w71 w72 hf; exact nosome hf
    | succ k ih =>
      intro w67 w68 w69 w70 w71 w72 hf; rw [fX0_spreadDamp_22] at hf
      intro H locs hP hD hS ls hl
      refine lv_iload hx hb dX0_spreadDamp_22 (lv_at hl 4 rfl) ?_
      refine lv_iload_n hx hb dX0_spreadDamp_24 rfl (lv_at hl 2 rfl) ?_
      refine lv_icmp_ge (tgt := 130) hx hb dX0_spreadDamp_25 (by decide) (fun c84 => ?_) (fun c84 => ?_)
      · have hf := ifp c84 hf
        exact E78 _ _ _ _ _ hf H locs hP hD hS ls (lv_sub hl [] rfl)
      · have hf := ifn c84 hf
        refine lv_aload_n hx hb dX0_spreadDamp_28 rfl (lv_at hl 0 rfl) ?_
        refine lv_dup hx hb dX0_spreadDamp_29 rfl ?_
        refine va_get (D := D) (ci := 0) (v := .long w70) (C := RX0) (T := TX0) (N := 3) hx hb hts inX0 hown hK hP 0 rfl rfl 2 (by decide) (hts _ lfX0_18) (fun _ h9 => h9) rfl dX0_spreadDamp_30 ?_
        refine lv_ldc2 (v := (10 : Int64)) hx hb hown (hts _ lcX0_22) dX0_spreadDamp_33 ?_
        refine lv_lmul hx hb dX0_spreadDamp_36 ?_
        refine lv_topl (fun y85 ey85 => ?_)
        have hf := nmeU ey85 hf
        refine va_put (D := D) (ci := 0) (v := .long y85) (ty := .long) (C := RX0) (T := TX0) (N := 3) hx hb hts inX0 tyX0 tyX0_ok nmX0 hown hK hP hD hS 0 rfl rfl 2 (by decide) (hts _ lfX0_18) (fun _ h9 => h9) rfl (tyX0_ok 2 (by decide)) rfl rfl (Nat.le_of_ble_eq_true rfl) dX0_spreadDamp_37 (fun H locs hP hD hS => ?_)
        have hP : va_P D vwCl [(q_t, .inr (0, [.ref w68, .ref w69, .long y85])), (w68, .inl (G 1, 21, .inr (.inl w71))), (w69, .inl (G 1, 21, .inr (.inl w72)))] H := hP
        have hD : va_D A [(q_t, .inr (0, [.ref w68, .ref w69, .long y85])), (w68, .inl (G 1, 21, .inr (.inl w71))), (w69, .inl (G 1, 21, .inr (.inl w72)))] := hD
        refine lv_aload_n hx hb dX0_spreadDamp_40 rfl (lv_at hl 0 rfl) ?_
        refine va_get (D := D) (ci := 0) (v := .ref w69) (C := RX0) (T := TX0) (N := 3) hx hb hts inX0 hown hK hP 0 rfl rfl 1 (by decide) (hts _ lfX0_15) (fun _ h9 => h9) rfl dX0_spreadDamp_41 ?_
        obtain ⟨o86, h87, hf⟩ := bd1E hf
        refine kW_stat0 hx hb hml hown hts hK hn hA hP hD hS (kX0_clearRow l D G fu w69 w72 h87) csX0_47 ⟨Nat.le_of_ble_eq_true rfl, Nat.le_of_ble_eq_true rfl⟩ [2] rfl rfl [false, false, true] rfl (w3 := [(w69, .inl (G 1, 21, .inr (.inl o86)))]) [0] rfl rfl rfl hl.1 rfl (Nat.le_of_ble_eq_true rfl) ⟨Nat.zero_le _, Nat.zero_le _⟩ dX0_spreadDamp_44 (fun H locs hP hD hS => ?_)
        have hP : va_P D vwCl [(q_t, .inr (0, [.ref w68, .ref w69, .long y85])), (w68, .inl (G 1, 21, .inr (.inl w71))), (w69, .inl (G 1, 21, .inr (.inl o86)))] H := hP
        have hD : va_D A [(q_t, .inr (0, [.ref w68, .ref w69, .long y85])), (w68, .inl (G 1, 21, .inr (.inl w71))), (w69, .inl (G 1, 21, .inr (.inl o86)))] := hD
        refine lv_iconst (v := (0 : Int32)) hx hb dX0_spreadDamp_47 (by decide) ?_
        refine lv_istore (lv' := [(6, .int (0 : Int32)), (0, .ref q_t), (2, .int v2), (3, .int v3), (4, .int v4), (5, .int w67)]) hx hb dX0_spreadDamp_48 hl (by decide) rfl (fun ls hl => ?_)
        obtain ⟨u112, h116, hf⟩ := bd1E hf
        have E113 : ∀ (z131 : Nat → Int64), some z131 = some u112 → ∀ (H : Heap) (locs : List Loc), va_P D vwCl [(q_t, .inr (0, [.ref w68, .ref w69, .long y85])), (w68, .inl (G 1, 21, .inr (.inl w71))), (w69, .inl (G 1, 21, .inr (.inl z131)))] H → va_D A [(q_t, .inr (0, [.ref w68, .ref w69, .long y85])), (w68, .inl (G 1, 21, .inr (.inl w71))), (w69, .inl (G 1, 21, .inr (.inl z131)))] → va_S A s.heap H locs → ∀ ls : Array Slot, lv_has ls 7 [(0, .ref q_t), (2, .int v2), (3, .int v3), (4, .int v4), (5, .int w67)] → W p l e (kR 2 81) s m args below meth c H locs 0 0 Q (F0 m 120 ls []) := by
          intro z131 hy; obtain rfl := sm1 hy
          intro H locs hP hD hS ls hl
          refine lv_aload_n hx hb dX0_spreadDamp_120 rfl (lv_at hl 0 rfl) ?_
          obtain ⟨o132, o133, o134, o135, h136, hf⟩ := bd4E hf
          refine kW_virt0 hx hb hml hown hts hK hn hA hP hD hS (kX0_swapRows l D G q_t w68 w69 y85 w71 z131 h136) cvX0_40 ⟨Nat.le_of_ble_eq_true rfl, Nat.le_of_ble_eq_true rfl⟩ [0, 1, 2] rfl rfl [true, true, true] rfl (w3 := [(q_t, .inr (0, [.ref o132, .ref o133, .long y85])), (o132, .inl (G 1, 21, .inr (.inl o134))), (o133, .inl (G 1, 21, .inr (.inl o135)))]) [0, 1, 2] rfl rfl 0 rfl rfl rfl hl.1 rfl (Nat.le_of_ble_eq_true rfl) ⟨Nat.zero_le _, Nat.zero_le _⟩ dX0_spreadDamp_121 (fun H locs hP hD hS => ?_)
          have hP : va_P D vwCl [(q_t, .inr (0, [.ref o132, .ref o133, .long y85])), (o132, .inl (G 1, 21, .inr (.inl o134))), (o133, .inl (G 1, 21, .inr (.inl o135)))] H := hP
          have hD : va_D A [(q_t, .inr (0, [.ref o132, .ref o133, .long y85])), (o132, .inl (G 1, 21, .inr (.inl o134))), (o133, .inl (G 1, 21, .inr (.inl o135)))] := hD
          obtain ⟨y137, ey137⟩ : ∃ y : Int32, y = w67 + (1 : Int32) := ⟨_, rfl⟩
          have hf := nmeU ey137 hf
          refine lv_iinc (v := y137) (lv' := [(5, .int y137), (0, .ref q_t), (2, .int v2), (3, .int v3), (4, .int v4)]) hx hb dX0_spreadDamp_124 hl (k := 4) rfl (by rw [ey137]; rfl) (by decide) rfl (fun ls hl => ?_)
          refine lv_goto (tgt := 22) hx hb dX0_spreadDamp_127 (by decide) ?_
          exact ih _ _ _ _ _ _ hf H locs hP hD hS ls (lv_sub hl [1, 2, 3, 4, 0] rfl)
        have L114 : ∀ (k : Nat) (w110 : Int32) (w111 : Nat → Int64), fX0_spreadDamp_50 v2 w71 v4 k w110 w111 = some u112 → ∀ (H : Heap) (locs : List Loc), va_P D vwCl [(q_t, .inr (0, [.ref w68, .ref w69, .long y85])), (w68, .inl (G 1, 21, .inr (.inl w71))), (w69, .inl (G 1, 21, .inr (.inl w111)))] H → va_D A [(q_t, .inr (0, [.ref w68, .ref w69, .long y85])), (w68, .inl (G 1, 21, .inr (.inl w71))), (w69, .inl (G 1, 21, .inr (.inl w111)))] → va_S A s.heap H locs → ∀ ls : Array Slot, lv_has ls 7 [(0, .ref q_t), (2, .int v2), (3, .int v3), (4, .int v4), (5, .int w67), (6, .int w110)] → W p l e (kR 2 81) s m args below meth c H locs 0 0 Q (F0 m 50 ls []) := by
          intro k; induction k with
          | zero => intro w110 w111 hf; exact nosome hf
          | succ k ih =>
            intro w110 w111 hf; rw [fX0_spreadDamp_50] at hf
            intro H locs hP hD hS ls hl
            refine lv_iload hx hb dX0_spreadDamp_50 (lv_at hl 5 rfl) ?_
            refine lv_bipush (v := (20 : Int32)) hx hb dX0_spreadDamp_52 (by decide) ?_
            refine lv_icmp_gt (tgt := 120) hx hb dX0_spreadDamp_54 (by decide) (fun c119 => ?_) (fun c119 => ?_)
            · have hf := ifp c119 hf
              exact E113 _ hf H locs hP hD hS ls (lv_sub hl [0, 1, 2, 3, 4] rfl)
            · have hf := ifn c119 hf
              refine lv_aload_n hx hb dX0_spreadDamp_57 rfl (lv_at hl 0 rfl) ?_
              refine va_get (D := D) (ci := 0) (v := .ref w69) (C := RX0) (T := TX0) (N := 3) hx hb hts inX0 hown hK hP 0 rfl rfl 1 (by decide) (hts _ lfX0_15) (fun _ h9 => h9) rfl dX0_spreadDamp_58 ?_
              refine lv_iload hx hb dX0_spreadDamp_61 (lv_at hl 5 rfl) ?_
              refine lv_iload_n hx hb dX0_spreadDamp_63 rfl (lv_at hl 1 rfl) ?_
              refine lv_iadd hx hb dX0_spreadDamp_64 ?_
              obtain ⟨r120, h121, hf⟩ := bd1E hf
              refine kO_nest hx hb hml hown hts hK hn hP (kX7_withinIll l D G (w110 + v2) h121) cnX0_51 ⟨Nat.le_of_ble_eq_true rfl, Nat.le_of_ble_eq_true rfl⟩ [] rfl rfl hl.1 rfl (Nat.le_of_ble_eq_true rfl) ⟨Nat.zero_le _, Nat.zero_le _⟩ dX0_spreadDamp_65 ?_
              refine lv_dup2_11 hx hb dX0_spreadDamp_68 rfl rfl ?_
              obtain ⟨x122, ex122, ix122, hf⟩ := ldLE hf
              refine k_lald hx hb hK hP 2 1 rfl rfl ix122 ex122 dX0_spreadDamp_69 ?_
              refine lv_bipush (v := (10 : Int32)) hx hb dX0_spreadDamp_70 (by decide) ?_
              refine lv_iload hx hb dX0_spreadDamp_72 (lv_at hl 3 rfl) ?_
              refine lv_isub hx hb dX0_spreadDamp_74 ?_
              refine lv_i2l (v := (((10 : Int32) - v4)).toInt64) hx hb dX0_spreadDamp_75 rfl ?_
              refine lv_aload_n hx hb dX0_spreadDamp_76 rfl (lv_at hl 0 rfl) ?_
              refine va_get (D := D) (ci := 0) (v := .ref w68) (C := RX0) (T := TX0) (N := 3) hx hb hts inX0 hown hK hP 0 rfl rfl 0 (by decide) (hts _ lfX0_9) (fun _ h9 => h9) rfl dX0_spreadDamp_77 ?_
              refine lv_iload hx hb dX0_spreadDamp_80 (lv_at hl 5 rfl) ?_
              obtain ⟨x123, ex123, ix123, hf⟩ := ldLE hf
              refine k_lald hx hb hK hP 1 1 rfl rfl ix123 ex123 dX0_spreadDamp_82 ?_
              refine lv_lmul hx hb dX0_spreadDamp_83 ?_
              refine lv_ladd hx hb dX0_spreadDamp_84 ?_
              obtain ⟨g124, eg124, ig124, hf⟩ := stLE hf
              refine k_last hx hb hK hP hD hS 2 1 rfl rfl ig124 eg124 dX0_spreadDamp_85 (fun H locs hP hD hS => ?_)
              have hP : va_P D vwCl [(q_t, .inr (0, [.ref w68, .ref w69, .long y85])), (w68, .inl (G 1, 21, .inr (.inl w71))), (w69, .inl (G 1, 21, .inr (.inl g124)))] H := hP
              have hD : va_D A [(q_t, .inr (0, [.ref w68, .ref w69, .long y85])), (w68, .inl (G 1, 21, .inr (.inl w71))), (w69, .inl (G 1, 21, .inr (.inl g124)))] := hD
              refine lv_aload_n hx hb dX0_spreadDamp_86 rfl (lv_at hl 0 rfl) ?_
              refine va_get (D := D) (ci := 0) (v := .ref w69) (C := RX0) (T := TX0) (N := 3) hx hb hts inX0 hown hK hP 0 rfl rfl 1 (by decide) (hts _ lfX0_15) (fun _ h9 => h9) rfl dX0_spreadDamp_87 ?_
              refine lv_iload hx hb dX0_spreadDamp_90 (lv_at hl 5 rfl) ?_
              refine lv_iload_n hx hb dX0_spreadDamp_92 rfl (lv_at hl 1 rfl) ?_
              refine lv_iadd hx hb dX0_spreadDamp_93 ?_
              refine lv_iconst (v := (1 : Int32)) hx hb dX0_spreadDamp_94 (by decide) ?_
              refine lv_iadd hx hb dX0_spreadDamp_95 ?_
              obtain ⟨r125, h126, hf⟩ := bd1E hf
              refine kO_nest hx hb hml hown hts hK hn hP (kX7_withinIll l D G ((w110 + v2) + (1 : Int32)) h126) cnX0_51 ⟨Nat.le_of_ble_eq_true rfl, Nat.le_of_ble_eq_true rfl⟩ [] rfl rfl hl.1 rfl (Nat.le_of_ble_eq_true rfl) ⟨Nat.zero_le _, Nat.zero_le _⟩ dX0_spreadDamp_96 ?_
              refine lv_dup2_11 hx hb dX0_spreadDamp_99 rfl rfl ?_
              obtain ⟨x127, ex127, ix127, hf⟩ := ldLE hf
              refine k_lald hx hb hK hP 2 1 rfl rfl ix127 ex127 dX0_spreadDamp_100 ?_
              refine lv_iload hx hb dX0_spreadDamp_101 (lv_at hl 3 rfl) ?_
              refine lv_i2l (v := (v4).toInt64) hx hb dX0_spreadDamp_103 rfl ?_
              refine lv_aload_n hx hb dX0_spreadDamp_104 rfl (lv_at hl 0 rfl) ?_
              refine va_get (D := D) (ci := 0) (v := .ref w68) (C := RX0) (T := TX0) (N := 3) hx hb hts inX0 hown hK hP 0 rfl rfl 0 (by decide) (hts _ lfX0_9) (fun _ h9 => h9) rfl dX0_spreadDamp_105 ?_
              refine lv_iload hx hb dX0_spreadDamp_108 (lv_at hl 5 rfl) ?_
              obtain ⟨x128, ex128, ix128, hf⟩ := ldLE hf
              refine k_lald hx hb hK hP 1 1 rfl rfl ix128 ex128 dX0_spreadDamp_110 ?_
              refine lv_lmul hx hb dX0_spreadDamp_111 ?_
              refine lv_ladd hx hb dX0_spreadDamp_112 ?_
              obtain ⟨g129, eg129, ig129, hf⟩ := stLE hf
              refine k_last hx hb hK hP hD hS 2 1 rfl rfl ig129 eg129 dX0_spreadDamp_113 (fun H locs hP hD hS => ?_)
              have hP : va_P D vwCl [(q_t, .inr (0, [.ref w68, .ref w69, .long y85])), (w68, .inl (G 1, 21, .inr (.inl w71))), (w69, .inl (G 1, 21, .inr (.inl g129)))] H := hP
              have hD : va_D A [(q_t, .inr (0, [.ref w68, .ref w69, .long y85])), (w68, .inl (G 1, 21, .inr (.inl w71))), (w69, .inl (G 1, 21, .inr (.inl g129)))] := hD
              obtain ⟨y130, ey130⟩ : ∃ y : Int32, y = w110 + (1 : Int32) := ⟨_, rfl⟩
              have hf := nmeU ey130 hf
              refine lv_iinc (v := y130) (lv' := [(6, .int y130), (0, .ref q_t), (2, .int v2), (3, .int v3), (4, .int v4), (5, .int w67)]) hx hb dX0_spreadDamp_114 hl (k := 5) rfl (by rw [ey130]; rfl) (by decide) rfl (fun ls hl => ?_)
              refine lv_goto (tgt := 50) hx hb dX0_spreadDamp_117 (by decide) ?_
              exact ih _ _ hf H locs hP hD hS ls (lv_sub hl [1, 2, 3, 4, 5, 0] rfl)
        exact L114 fu (0 : Int32) o86 h116 H locs hP hD hS ls (lv_sub hl [1, 2, 3, 4, 5, 0] rfl)
  exact L79 fu (0 : Int32) q_t_row q_t_nextRow (1 : Int64) g3 t_nextRow h81 H locs hP hD hS ls (lv_sub hl [1, 3, 4, 5, 0] rfl)
set_option maxHeartbeats 4000000 in
set_option maxRecDepth 100000 in
theorem kX0_weighDays (l : Launch) (D : va_G) (G : Nat → ClassId) (fu : Nat) (q_t : Nat) (q_t_row : Nat) (q_t_nextRow : Nat) (t_scale : Int64) (t_row : Nat → Int64) (t_nextRow : Nat → Int64) (v1 : Int32) (v2 : Int32) (v3 : Int32) {o_q_t_row : Nat} {o_q_t_nextRow : Nat} {o_t_scale : Int64} {o_t_row : Nat → Int64} {o_t_nextRow : Nat → Int64} (hf : fX0_weighDays fu q_t_row q_t_nextRow t_scale t_row t_nextRow v1 v2 v3 = some (o_q_t_row, o_q_t_nextRow, o_t_scale, o_t_row, o_t_nextRow)) : rW l D G yX0_weighDays cX0_weighDays 8 none 2 81 [.ref q_t, .int v1, .int v2, .int v3] [(q_t, .inr (0, [.ref q_t_row, .ref q_t_nextRow, .long t_scale])), (q_t_row, .inl (G 1, 21, .inr (.inl t_row))), (q_t_nextRow, .inl (G 1, 21, .inr (.inl t_nextRow)))] [(q_t, .inr (0, [.ref o_q_t_row, .ref o_q_t_nextRow, .long o_t_scale])), (o_q_t_row, .inl (G 1, 21, .inr (.inl o_t_row))), (o_q_t_nextRow, .inl (G 1, 21, .inr (.inl o_t_nextRow)))] none := by
  refine rW_of (by decide) (Nat.le_of_ble_eq_true rfl) ?_
  intro p e s m args below meth c Q A hx hb hml hown hts hK hn hA RET H locs hP hD hS ls hl
  have RT : ∀ (a0_ : Nat) (a1_ : Nat) (a2_ : Int64) (a3_ : Nat → Int64) (a4_ : Nat → Int64), some (a0_, a1_, a2_, a3_, a4_) = some (o_q_t_row, o_q_t_nextRow, o_t_scale, o_t_row, o_t_nextRow) → ∀ (pc : Nat) (ls : Array Slot) (ins : Instr) (H : Heap) (locs : List Loc), decode cX0_weighDays pc = .ok (ins, 1) → rk none none ins → va_P D vwCl [(q_t, .inr (0, [.ref a0_, .ref a1_, .long a2_])), (a0_, .inl (G 1, 21, .inr (.inl a3_))), (a1_, .inl (G 1, 21, .inr (.inl a4_)))] H → va_D A [(q_t, .inr (0, [.ref a0_, .ref a1_, .long a2_])), (a0_, .inl (G 1, 21, .inr (.inl a3_))), (a1_, .inl (G 1, 21, .inr (.inl a4_)))] → va_S A s.heap H locs → W p l e (kR 2 81) s m args below meth c H locs 0 0 Q (F0 m pc ls []) := by
    intro a0_ a1_ a2_ a3_ a4_ hy; obtain ⟨rfl, rfl, rfl, rfl, rfl⟩ := sm5 hy
    exact RET
  have hown : s.vm.findClass RX0 = some m.cls := hown
  have hl : lv_has ls 8 [(0, .ref q_t), (1, .int v1), (2, .int v2), (3, .int v3)] := hl
  clear RET
  rw [fX0_weighDays] at hf
  refine lv_aload_n hx hb dX0_weighDays_0 rfl (lv_at hl 0 rfl) ?_
  refine lv_lconst (v := (1 : Int64)) hx hb dX0_weighDays_1 (by decide) ?_
  refine va_put (D := D) (ci := 0) (v := .long (1 : Int64)) (ty := .long) (C := RX0) (T := TX0) (N := 3) hx hb hts inX0 tyX0 tyX0_ok nmX0 hown hK hP hD hS 0 rfl rfl 2 (by decide) (hts _ lfX0_18) (fun _ h9 => h9) rfl (tyX0_ok 2 (by decide)) rfl rfl (Nat.le_of_ble_eq_true rfl) dX0_weighDays_2 (fun H locs hP hD hS => ?_)
  have hP : va_P D vwCl [(q_t, .inr (0, [.ref q_t_row, .ref q_t_nextRow, .long (1 : Int64)])), (q_t_row, .inl (G 1, 21, .inr (.inl t_row))), (q_t_nextRow, .inl (G 1, 21, .inr (.inl t_nextRow)))] H := hP
  have hD : va_D A [(q_t, .inr (0, [.ref q_t_row, .ref q_t_nextRow, .long (1 : Int64)])), (q_t_row, .inl (G 1, 21, .inr (.inl t_row))), (q_t_nextRow, .inl (G 1, 21, .inr (.inl t_nextRow)))] := hD
  refine lv_iconst (v := (0 : Int32)) hx hb dX0_weighDays_5 (by decide) ?_
  refine lv_istore (lv' := [(4, .int (0 : Int32)), (0, .ref q_t), (1, .int v1), (2, .int v2), (3, .int v3)]) hx hb dX0_weighDays_6 hl (by decide) rfl (fun ls hl => ?_)
  obtain ⟨u15, h19, hf⟩ := bd1E hf
  have E16 : ∀ (z25 : Nat → Int64), some z25 = some u15 → ∀ (H : Heap) (locs : List Loc), va_P D vwCl [(q_t, .inr (0, [.ref q_t_row, .ref q_t_nextRow, .long (1 : Int64)])), (q_t_row, .inl (G 1, 21, .inr (.inl z25))), (q_t_nextRow, .inl (G 1, 21, .inr (.inl t_nextRow)))] H → va_D A [(q_t, .inr (0, [.ref q_t_row, .ref q_t_nextRow, .long (1 : Int64)])), (q_t_row, .inl (G 1, 21, .inr (.inl z25))), (q_t_nextRow, .inl (G 1, 21, .inr (.inl t_nextRow)))] → va_S A s.heap H locs → ∀ ls : Array Slot, lv_has ls 8 [(0, .ref q_t), (1, .int v1), (2, .int v2), (3, .int v3)] → W p l e (kR 2 81) s m args below meth c H locs 0 0 Q (F0 m 34 ls []) := by
    intro z25 hy; obtain rfl := sm1 hy
    intro H locs hP hD hS ls hl
    refine lv_iconst (v := (0 : Int32)) hx hb dX0_weighDays_34 (by decide) ?_
    refine lv_istore (lv' := [(4, .int (0 : Int32)), (0, .ref q_t), (1, .int v1), (2, .int v2), (3, .int v3)]) hx hb dX0_weighDays_35 hl (by decide) rfl (fun ls hl => ?_)
    obtain ⟨u91, u92, u93, u94, u95, h99, hf⟩ := bd5E hf
    have E96 : ∀ (z152 : Nat) (z153 : Nat) (z154 : Int64) (z155 : Nat → Int64) (z156 : Nat → Int64), some (z152, z153, z154, z155, z156) = some (u91, u92, u93, u94, u95) → ∀ (H : Heap) (locs : List Loc), va_P D vwCl [(q_t, .inr (0, [.ref z152, .ref z153, .long z154])), (z152, .inl (G 1, 21, .inr (.inl z155))), (z153, .inl (G 1, 21, .inr (.inl z156)))] H → va_D A [(q_t, .inr (0, [.ref z152, .ref z153, .long z154])), (z152, .inl (G 1, 21, .inr (.inl z155))), (z153, .inl (G 1, 21, .inr (.inl z156)))] → va_S A s.heap H locs → ∀ ls : Array Slot, lv_has ls 8 [] → W p l e (kR 2 81) s m args below meth c H locs 0 0 Q (F0 m 146 ls []) := by
      intro z152 z153 z154 z155 z156 hy; obtain ⟨rfl, rfl, rfl, rfl, rfl⟩ := sm5 hy
      intro H locs hP hD hS ls hl
      exact RT _ _ _ _ _ hf _ _ _ H locs dX0_weighDays_146 rkV hP hD hS
    have L97 : ∀ (k : Nat) (w85 : Int32) (w86 : Nat) (w87 : Nat) (w88 : Int64) (w89 : Nat → Int64) (w90 : Nat → Int64), fX0_weighDays_37 fu v1 v2 v3 k w85 w86 w87 w88 w89 w90 = some (u91, u92, u93, u94, u95) → ∀ (H : Heap) (locs : List Loc), va_P D vwCl [(q_t, .inr (0, [.ref w86, .ref w87, .long w88])), (w86, .inl (G 1, 21, .inr (.inl w89))), (w87, .inl (G 1, 21, .inr (.inl w90)))] H → va_D A [(q_t, .inr (0, [.ref w86, .ref w87, .long w88])), (w86, .inl (G 1, 21, .inr (.inl w89))), (w87, .inl (G 1, 21, .inr (.inl w90)))] → va_S A s.heap H locs → ∀ ls : Array Slot, lv_has ls 8 [(0, .ref q_t), (1, .int v1), (2, .int v2), (3, .int v3), (4, .int w85)] → W p l e (kR 2 81) s m args below meth c H locs 0 0 Q (F0 m 37 ls []) := by
      intro k; induction k with
      | zero => intro w85 w86 w87 w88 w89 w90 hf; exact nosome hf
      | succ k ih =>
        intro w85 w86 w87 w88 w89 w90 hf; rw [fX0_weighDays_37] at hf
        intro H locs hP hD hS ls hl
        refine lv_iload hx hb dX0_weighDays_37 (lv_at hl 4 rfl) ?_
        refine lv_iload_n hx hb dX0_weighDays_39 rfl (lv_at hl 1 rfl) ?_
        refine lv_icmp_ge (tgt := 146) hx hb dX0_weighDays_40 (by decide) (fun c102 => ?_) (fun c102 => ?_)
        · have hf := ifp c102 hf
          exact E96 _ _ _ _ _ hf H locs hP hD hS ls (lv_sub hl [] rfl)
        · have hf := ifn c102 hf
          refine lv_aload_n hx hb dX0_weighDays_43 rfl (lv_at hl 0 rfl) ?_
          refine lv_dup hx hb dX0_weighDays_44 rfl ?_
          refine va_get (D := D) (ci := 0) (v := .long w88) (C := RX0) (T := TX0) (N := 3) hx hb hts inX0 hown hK hP 0 rfl rfl 2 (by decide) (hts _ lfX0_18) (fun _ h9 => h9) rfl dX0_weighDays_45 ?_
          refine lv_ldc2 (v := (10 : Int64)) hx hb hown (hts _ lcX0_22) dX0_weighDays_48 ?_
          refine lv_lmul hx hb dX0_weighDays_51 ?_
          refine lv_topl (fun y103 ey103 => ?_)
          have hf := nmeU ey103 hf
          refine va_put (D := D) (ci := 0) (v := .long y103) (ty := .long) (C := RX0) (T := TX0) (N := 3) hx hb hts inX0 tyX0 tyX0_ok nmX0 hown hK hP hD hS 0 rfl rfl 2 (by decide) (hts _ lfX0_18) (fun _ h9 => h9) rfl (tyX0_ok 2 (by decide)) rfl rfl (Nat.le_of_ble_eq_true rfl) dX0_weighDays_52 (fun H locs hP hD hS => ?_)
          have hP : va_P D vwCl [(q_t, .inr (0, [.ref w86, .ref w87, .long y103])), (w86, .inl (G 1, 21, .inr (.inl w89))), (w87, .inl (G 1, 21, .inr (.inl w90)))] H := hP
          have hD : va_D A [(q_t, .inr (0, [.ref w86, .ref w87, .long y103])), (w86, .inl (G 1, 21, .inr (.inl w89))), (w87, .inl (G 1, 21, .inr (.inl w90)))] := hD
          refine lv_iconst (v := (0 : Int32)) hx hb dX0_weighDays_55 (by decide) ?_
          refine lv_istore (lv' := [(5, .int (0 : Int32)), (0, .ref q_t), (1, .int v1), (2, .int v2), (3, .int v3), (4, .int w85)]) hx hb dX0_weighDays_56 hl (by decide) rfl (fun ls hl => ?_)
          obtain ⟨u127, h131, hf⟩ := bd1E hf
          have E128 : ∀ (z145 : Nat → Int64), some z145 = some u127 → ∀ (H : Heap) (locs : List Loc), va_P D vwCl [(q_t, .inr (0, [.ref w86, .ref w87, .long y103])), (w86, .inl (G 1, 21, .inr (.inl w89))), (w87, .inl (G 1, 21, .inr (.inl z145)))] H → va_D A [(q_t, .inr (0, [.ref w86, .ref w87, .long y103])), (w86, .inl (G 1, 21, .inr (.inl w89))), (w87, .inl (G 1, 21, .inr (.inl z145)))] → va_S A s.heap H locs → ∀ ls : Array Slot, lv_has ls 8 [(0, .ref q_t), (1, .int v1), (2, .int v2), (3, .int v3), (4, .int w85)] → W p l e (kR 2 81) s m args below meth c H locs 0 0 Q (F0 m 136 ls []) := by
            intro z145 hy; obtain rfl := sm1 hy
            intro H locs hP hD hS ls hl
            refine lv_aload_n hx hb dX0_weighDays_136 rfl (lv_at hl 0 rfl) ?_
            obtain ⟨o146, o147, o148, o149, h150, hf⟩ := bd4E hf
            refine kW_virt0 hx hb hml hown hts hK hn hA hP hD hS (kX0_swapRows l D G q_t w86 w87 y103 w89 z145 h150) cvX0_40 ⟨Nat.le_of_ble_eq_true rfl, Nat.le_of_ble_eq_true rfl⟩ [0, 1, 2] rfl rfl [true, true, true] rfl (w3 := [(q_t, .inr (0, [.ref o146, .ref o147, .long y103])), (o146, .inl (G 1, 21, .inr (.inl o148))), (o147, .inl (G 1, 21, .inr (.inl o149)))]) [0, 1, 2] rfl rfl 0 rfl rfl rfl hl.1 rfl (Nat.le_of_ble_eq_true rfl) ⟨Nat.zero_le _, Nat.zero_le _⟩ dX0_weighDays_137 (fun H locs hP hD hS => ?_)
            have hP : va_P D vwCl [(q_t, .inr (0, [.ref o146, .ref o147, .long y103])), (o146, .inl (G 1, 21, .inr (.inl o148))), (o147, .inl (G 1, 21, .inr (.inl o149)))] H := hP
            have hD : va_D A [(q_t, .inr (0, [.ref o146, .ref o147, .long y103])), (o146, .inl (G 1, 21, .inr (.inl o148))), (o147, .inl (G 1, 21, .inr (.inl o149)))] := hD
            obtain ⟨y151, ey151⟩ : ∃ y : Int32, y = w85 + (1 : Int32) := ⟨_, rfl⟩
            have hf := nmeU ey151 hf
            refine lv_iinc (v := y151) (lv' := [(4, .int y151), (0, .ref q_t), (1, .int v1), (2, .int v2), (3, .int v3)]) hx hb dX0_weighDays_140 hl (k := 4) rfl (by rw [ey151]; rfl) (by decide) rfl (fun ls hl => ?_)
            refine lv_goto (tgt := 37) hx hb dX0_weighDays_143 (by decide) ?_
            exact ih _ _ _ _ _ _ hf H locs hP hD hS ls (lv_sub hl [1, 2, 3, 4, 0] rfl)
          have L129 : ∀ (k : Nat) (w125 : Int32) (w126 : Nat → Int64), fX0_weighDays_58 w89 v2 v3 y103 k w125 w126 = some u127 → ∀ (H : Heap) (locs : List Loc), va_P D vwCl [(q_t, .inr (0, [.ref w86, .ref w87, .long y103])), (w86, .inl (G 1, 21, .inr (.inl w89))), (w87, .inl (G 1, 21, .inr (.inl w126)))] H → va_D A [(q_t, .inr (0, [.ref w86, .ref w87, .long y103])), (w86, .inl (G 1, 21, .inr (.inl w89))), (w87, .inl (G 1, 21, .inr (.inl w126)))] → va_S A s.heap H locs → ∀ ls : Array Slot, lv_has ls 8 [(0, .ref q_t), (1, .int v1), (2, .int v2), (3, .int v3), (4, .int w85), (5, .int w125)] → W p l e (kR 2 81) s m args below meth c H locs 0 0 Q (F0 m 58 ls []) := by
            intro k; induction k with
            | zero => intro w125 w126 hf; exact nosome hf
            | succ k ih =>
              intro w125 w126 hf; rw [fX0_weighDays_58] at hf
              intro H locs hP hD hS ls hl
              refine lv_iload hx hb dX0_weighDays_58 (lv_at hl 5 rfl) ?_
              refine lv_bipush (v := (9 : Int32)) hx hb dX0_weighDays_60 (by decide) ?_
              refine lv_icmp_gt (tgt := 136) hx hb dX0_weighDays_62 (by decide) (fun c134 => ?_) (fun c134 => ?_)
              · have hf := ifp c134 hf
                exact E128 _ hf H locs hP hD hS ls (lv_sub hl [0, 1, 2, 3, 4] rfl)
              · have hf := ifn c134 hf
                refine lv_iload_n hx hb dX0_weighDays_65 rfl (lv_at hl 2 rfl) ?_
                refine lv_i2l (v := (v2).toInt64) hx hb dX0_weighDays_66 rfl ?_
                refine lv_aload_n hx hb dX0_weighDays_67 rfl (lv_at hl 0 rfl) ?_
                refine va_get (D := D) (ci := 0) (v := .ref w86) (C := RX0) (T := TX0) (N := 3) hx hb hts inX0 hown hK hP 0 rfl rfl 0 (by decide) (hts _ lfX0_9) (fun _ h9 => h9) rfl dX0_weighDays_68 ?_
                refine lv_iconst (v := (0 : Int32)) hx hb dX0_weighDays_71 (by decide) ?_
                refine lv_iload hx hb dX0_weighDays_72 (lv_at hl 5 rfl) ?_
                refine lv_iconst (v := (1 : Int32)) hx hb dX0_weighDays_74 (by decide) ?_
                refine lv_isub hx hb dX0_weighDays_75 ?_
                refine va_mmax hx hb (hml.trans hl.1.symm) hown (hts _ lmX0_24) (hts _ ks_max_int) (hts _ niJ9) (hts _ kc_max_int) (Nat.le_of_ble_eq_true rfl) (Nat.le_of_ble_eq_true rfl) (Nat.le_of_ble_eq_true rfl) (Nat.le_of_ble_eq_true rfl) dX0_weighDays_76 ?_
                refine lv_topi (fun y135 ey135 => ?_)
                have hf := nmeU ey135 hf
                obtain ⟨x136, ex136, ix136, hf⟩ := ldLE hf
                refine k_lald hx hb hK hP 1 1 rfl rfl ix136 ex136 dX0_weighDays_79 ?_
                refine lv_lmul hx hb dX0_weighDays_80 ?_
                refine lv_bipush (v := (10 : Int32)) hx hb dX0_weighDays_81 (by decide) ?_
                refine lv_iload_n hx hb dX0_weighDays_83 rfl (lv_at hl 2 rfl) ?_
                refine lv_isub hx hb dX0_weighDays_84 ?_
                refine lv_i2l (v := (((10 : Int32) - v2)).toInt64) hx hb dX0_weighDays_85 rfl ?_
                refine lv_aload_n hx hb dX0_weighDays_86 rfl (lv_at hl 0 rfl) ?_
                refine va_get (D := D) (ci := 0) (v := .ref w86) (C := RX0) (T := TX0) (N := 3) hx hb hts inX0 hown hK hP 0 rfl rfl 0 (by decide) (hts _ lfX0_9) (fun _ h9 => h9) rfl dX0_weighDays_87 ?_
                refine lv_bipush (v := (9 : Int32)) hx hb dX0_weighDays_90 (by decide) ?_
                refine lv_iload hx hb dX0_weighDays_92 (lv_at hl 5 rfl) ?_
                refine lv_iconst (v := (1 : Int32)) hx hb dX0_weighDays_94 (by decide) ?_
                refine lv_iadd hx hb dX0_weighDays_95 ?_
                refine va_mmin hx hb (hml.trans hl.1.symm) hown (hts _ lmX0_30) (hts _ ks_min_int) (hts _ niJ9) (hts _ kc_min_int) (Nat.le_of_ble_eq_true rfl) (Nat.le_of_ble_eq_true rfl) (Nat.le_of_ble_eq_true rfl) (Nat.le_of_ble_eq_true rfl) dX0_weighDays_96 ?_
                refine lv_topi (fun y137 ey137 => ?_)
                have hf := nmeU ey137 hf
                obtain ⟨x138, ex138, ix138, hf⟩ := ldLE hf
                refine k_lald hx hb hK hP 1 1 rfl rfl ix138 ex138 dX0_weighDays_99 ?_
                refine lv_lmul hx hb dX0_weighDays_100 ?_
                refine lv_ladd hx hb dX0_weighDays_101 ?_
                refine lv_iload_n hx hb dX0_weighDays_102 rfl (lv_at hl 3 rfl) ?_
                refine lv_i2l (v := (v3).toInt64) hx hb dX0_weighDays_103 rfl ?_
                refine lv_aload_n hx hb dX0_weighDays_104 rfl (lv_at hl 0 rfl) ?_
                refine va_get (D := D) (ci := 0) (v := .long y103) (C := RX0) (T := TX0) (N := 3) hx hb hts inX0 hown hK hP 0 rfl rfl 2 (by decide) (hts _ lfX0_18) (fun _ h9 => h9) rfl dX0_weighDays_105 ?_
                refine lv_lmul hx hb dX0_weighDays_108 ?_
                refine lv_lsub hx hb dX0_weighDays_109 ?_
                refine lv_topl (fun y139 ey139 => ?_)
                have hf := nmeU ey139 hf
                refine lv_lstore (lv' := [(6, .long y139), (0, .ref q_t), (1, .int v1), (2, .int v2), (3, .int v3), (4, .int w85), (5, .int w125)]) hx hb dX0_weighDays_110 hl (by decide) rfl (fun ls hl => ?_)
                refine lv_aload_n hx hb dX0_weighDays_112 rfl (lv_at hl 1 rfl) ?_
                refine va_get (D := D) (ci := 0) (v := .ref w87) (C := RX0) (T := TX0) (N := 3) hx hb hts inX0 hown hK hP 0 rfl rfl 1 (by decide) (hts _ lfX0_15) (fun _ h9 => h9) rfl dX0_weighDays_113 ?_
                refine lv_iload hx hb dX0_weighDays_116 (lv_at hl 6 rfl) ?_
                refine lv_lload hx hb dX0_weighDays_118 (lv_at hl 0 rfl) ?_
                refine lv_aload_n hx hb dX0_weighDays_120 rfl (lv_at hl 1 rfl) ?_
                refine lv_iload hx hb dX0_weighDays_121 (lv_at hl 6 rfl) ?_
                obtain ⟨r140, h141, hf⟩ := bd1E hf
                refine kO_virt hx hb hml hown hts hK hn hP (kX0_paidNow l D G q_t w86 w87 y103 w125 h141) cvX0_33 ⟨Nat.le_of_ble_eq_true rfl, Nat.le_of_ble_eq_true rfl⟩ [0] rfl 0 rfl rfl rfl hl.1 rfl (Nat.le_of_ble_eq_true rfl) ⟨Nat.zero_le _, Nat.zero_le _⟩ dX0_weighDays_123 ?_
                refine va_mmax_long hx hb (hml.trans hl.1.symm) hown (hts _ lmX0_37) (hts _ ks_max_long) (hts _ niJ9) (hts _ kc_max_long) (Nat.le_of_ble_eq_true rfl) (Nat.le_of_ble_eq_true rfl) (Nat.le_of_ble_eq_true rfl) (Nat.le_of_ble_eq_true rfl) dX0_weighDays_126 ?_
                refine lv_topl (fun y142 ey142 => ?_)
                have hf := nmeU ey142 hf
                obtain ⟨g143, eg143, ig143, hf⟩ := stLE hf
                refine k_last hx hb hK hP hD hS 2 1 rfl rfl ig143 eg143 dX0_weighDays_129 (fun H locs hP hD hS => ?_)
                have hP : va_P D vwCl [(q_t, .inr (0, [.ref w86, .ref w87, .long y103])), (w86, .inl (G 1, 21, .inr (.inl w89))), (w87, .inl (G 1, 21, .inr (.inl g143)))] H := hP
                have hD : va_D A [(q_t, .inr (0, [.ref w86, .ref w87, .long y103])), (w86, .inl (G 1, 21, .inr (.inl w89))), (w87, .inl (G 1, 21, .inr (.inl g143)))] := hD
                obtain ⟨y144, ey144⟩ : ∃ y : Int32, y = w125 + (1 : Int32) := ⟨_, rfl⟩
                have hf := nmeU ey144 hf
                refine lv_iinc (v := y144) (lv' := [(5, .int y144), (6, .long y139), (0, .ref q_t), (1, .int v1), (2, .int v2), (3, .int v3), (4, .int w85)]) hx hb dX0_weighDays_130 hl (k := 6) rfl (by rw [ey144]; rfl) (by decide) rfl (fun ls hl => ?_)
                refine lv_goto (tgt := 58) hx hb dX0_weighDays_133 (by decide) ?_
                exact ih _ _ hf H locs hP hD hS ls (lv_sub hl [2, 3, 4, 5, 6, 0] rfl)
          exact L129 fu (0 : Int32) w90 h131 H locs hP hD hS ls (lv_sub hl [1, 2, 3, 4, 5, 0] rfl)
    exact L97 fu (0 : Int32) q_t_row q_t_nextRow (1 : Int64) z25 t_nextRow h99 H locs hP hD hS ls (lv_sub hl [1, 2, 3, 4, 0] rfl)
  have L17 : ∀ (k : Nat) (w13 : Int32) (w14 : Nat → Int64), fX0_weighDays_8 k w13 w14 = some u15 → ∀ (H : Heap) (locs : List Loc), va_P D vwCl [(q_t, .inr (0, [.ref q_t_row, .ref q_t_nextRow, .long (1 : Int64)])), (q_t_row, .inl (G 1, 21, .inr (.inl w14))), (q_t_nextRow, .inl (G 1, 21, .inr (.inl t_nextRow)))] H → va_D A [(q_t, .inr (0, [.ref q_t_row, .ref q_t_nextRow, .long (1 : Int64)])), (q_t_row, .inl (G 1, 21, .inr (.inl w14))), (q_t_nextRow, .inl (G 1, 21, .inr (.inl t_nextRow)))] → va_S A s.heap H locs → ∀ ls : Array Slot, lv_has ls 8 [(0, .ref q_t), (1, .int v1), (2, .int v2), (3, .int v3), (4, .int w13)] → W p l e (kR 2 81) s m args below meth c H locs 0 0 Q (F0 m 8 ls []) := by
    intro k; induction k with
    | zero => intro w13 w14 hf; exact nosome hf
    | succ k ih =>
      intro w13 w14 hf; rw [fX0_weighDays_8] at hf
      intro H locs hP hD hS ls hl
      refine lv_iload hx hb dX0_weighDays_8 (lv_at hl 4 rfl) ?_
      refine lv_bipush (v := (9 : Int32)) hx hb dX0_weighDays_10 (by decide) ?_
      refine lv_icmp_gt (tgt := 34) hx hb dX0_weighDays_12 (by decide) (fun c22 => ?_) (fun c22 => ?_)
      · have hf := ifp c22 hf
        exact E16 _ hf H locs hP hD hS ls (lv_sub hl [0, 1, 2, 3] rfl)
      · have hf := ifn c22 hf
        refine lv_aload_n hx hb dX0_weighDays_15 rfl (lv_at hl 0 rfl) ?_
        refine va_get (D := D) (ci := 0) (v := .ref q_t_row) (C := RX0) (T := TX0) (N := 3) hx hb hts inX0 hown hK hP 0 rfl rfl 0 (by decide) (hts _ lfX0_9) (fun _ h9 => h9) rfl dX0_weighDays_16 ?_
        refine lv_iload hx hb dX0_weighDays_19 (lv_at hl 4 rfl) ?_
        refine lv_bipush (v := (10 : Int32)) hx hb dX0_weighDays_21 (by decide) ?_
        refine lv_iload hx hb dX0_weighDays_23 (lv_at hl 4 rfl) ?_
        refine lv_isub hx hb dX0_weighDays_25 ?_
        refine lv_i2l (v := (((10 : Int32) - w13)).toInt64) hx hb dX0_weighDays_26 rfl ?_
        obtain ⟨g23, eg23, ig23, hf⟩ := stLE hf
        refine k_last hx hb hK hP hD hS 1 1 rfl rfl ig23 eg23 dX0_weighDays_27 (fun H locs hP hD hS => ?_)
        have hP : va_P D vwCl [(q_t, .inr (0, [.ref q_t_row, .ref q_t_nextRow, .long (1 : Int64)])), (q_t_row, .inl (G 1, 21, .inr (.inl g23))), (q_t_nextRow, .inl (G 1, 21, .inr (.inl t_nextRow)))] H := hP
        have hD : va_D A [(q_t, .inr (0, [.ref q_t_row, .ref q_t_nextRow, .long (1 : Int64)])), (q_t_row, .inl (G 1, 21, .inr (.inl g23))), (q_t_nextRow, .inl (G 1, 21, .inr (.inl t_nextRow)))] := hD
        obtain ⟨y24, ey24⟩ : ∃ y : Int32, y = w13 + (1 : Int32) := ⟨_, rfl⟩
        have hf := nmeU ey24 hf
        refine lv_iinc (v := y24) (lv' := [(4, .int y24), (0, .ref q_t), (1, .int v1), (2, .int v2), (3, .int v3)]) hx hb dX0_weighDays_28 hl (k := 4) rfl (by rw [ey24]; rfl) (by decide) rfl (fun ls hl => ?_)
        refine lv_goto (tgt := 8) hx hb dX0_weighDays_31 (by decide) ?_
        exact ih _ _ hf H locs hP hD hS ls (lv_sub hl [1, 2, 3, 4, 0] rfl)
  exact L17 fu (0 : Int32) t_row h19 H locs hP hD hS ls (lv_sub hl [1, 2, 3, 4, 0] rfl)
set_option maxHeartbeats 4000000 in
set_option maxRecDepth 100000 in
theorem kX1_house5 (l : Launch) (D : va_G) (G : Nat → ClassId) (q_t q_t_ills q_t_roomOf q_t_effects q_t_badFor q_t_likes q_t_sights : Nat) (t_there : Int32) (t_sat : Int32) (t_hour : Int32) (t_ills : Nat → Int32) (t_roomOf : Nat → Int32) (v1 : Int32) (v2 : Int32) (v3 : Int32) (v4 : Int32) {o_t_there : Int32} {o_t_sat : Int32} {o_t_ills : Nat → Int32} {o_t_roomOf : Nat → Int32} (hf : fX1_house5 t_there t_sat t_ills t_roomOf v1 v2 v3 v4 = some (o_t_there, o_t_sat, o_t_ills, o_t_roomOf)) : rW l D G yX1_house5 cX1_house5 5 none 1 60 [.ref q_t, .int v1, .int v2, .int v3, .int v4] [(q_t, .inr (1, [.int t_there, .int t_sat, .int t_hour, .ref q_t_ills, .ref q_t_roomOf, .ref q_t_effects, .ref q_t_badFor, .ref q_t_likes, .ref q_t_sights])), (q_t_ills, .inl (G 0, 18, .inl t_ills)), (q_t_roomOf, .inl (G 0, 6, .inl t_roomOf))] [(q_t, .inr (1, [.int o_t_there, .int o_t_sat, .int t_hour, .ref q_t_ills, .ref q_t_roomOf, .ref q_t_effects, .ref q_t_badFor, .ref q_t_likes, .ref q_t_sights])), (q_t_ills, .inl (G 0, 18, .inl o_t_ills)), (q_t_roomOf, .inl (G 0, 6, .inl o_t_roomOf))] none := by
  refine rW_of (by decide) (Nat.le_of_ble_eq_true rfl) ?_
  intro p e s m args below meth c Q A hx hb hml hown hts hK hn hA RET H locs hP hD hS ls hl
  have RT : ∀ (a0_ : Int32) (a1_ : Int32) (a2_ : Nat → Int32) (a3_ : Nat → Int32), some (a0_, a1_, a2_, a3_) = some (o_t_there, o_t_sat, o_t_ills, o_t_roomOf) → ∀ (pc : Nat) (ls : Array Slot) (ins : Instr) (H : Heap) (locs : List Loc), decode cX1_house5 pc = .ok (ins, 1) → rk none none ins → va_P D vwCl [(q_t, .inr (1, [.int a0_, .int a1_, .int t_hour, .ref q_t_ills, .ref q_t_roomOf, .ref q_t_effects, .ref q_t_badFor, .ref q_t_likes, .ref q_t_sights])), (q_t_ills, .inl (G 0, 18, .inl a2_)), (q_t_roomOf, .inl (G 0, 6, .inl a3_))] H → va_D A [(q_t, .inr (1, [.int a0_, .int a1_, .int t_hour, .ref q_t_ills, .ref q_t_roomOf, .ref q_t_effects, .ref q_t_badFor, .ref q_t_likes, .ref q_t_sights])), (q_t_ills, .inl (G 0, 18, .inl a2_)), (q_t_roomOf, .inl (G 0, 6, .inl a3_))] → va_S A s.heap H locs → W p l e (kR 1 60) s m args below meth c H locs 0 0 Q (F0 m pc ls []) := by
    intro a0_ a1_ a2_ a3_ hy; obtain ⟨rfl, rfl, rfl, rfl⟩ := sm4 hy
    exact RET
  have hown : s.vm.findClass RX1 = some m.cls := hown
  have hl : lv_has ls 5 [(0, .ref q_t), (1, .int v1), (2, .int v2), (3, .int v3), (4, .int v4)] := hl
  clear RET
  rw [fX1_house5] at hf
  refine lv_aload_n hx hb dX1_house5_0 rfl (lv_at hl 0 rfl) ?_
  refine lv_dup hx hb dX1_house5_1 rfl ?_
  refine va_get (D := D) (ci := 1) (v := .int t_there) (C := RX1) (T := TX1) (N := 9) hx hb hts inX1 hown hK hP 0 rfl rfl 0 (by decide) (hts _ lfX1_34) (fun _ h9 => h9) rfl dX1_house5_2 ?_
  refine lv_iconst (v := (1 : Int32)) hx hb dX1_house5_5 (by decide) ?_
  refine lv_iload_n hx hb dX1_house5_6 rfl (lv_at hl 1 rfl) ?_
  refine lv_ishl hx hb dX1_house5_7 ?_
  refine lv_ior hx hb dX1_house5_8 ?_
  refine lv_topi (fun y1 ey1 => ?_)
  have hf := nmeU ey1 hf
  refine va_put (D := D) (ci := 1) (v := .int y1) (ty := .int) (C := RX1) (T := TX1) (N := 9) hx hb hts inX1 tyX1 tyX1_ok nmX1 hown hK hP hD hS 0 rfl rfl 0 (by decide) (hts _ lfX1_34) (fun _ h9 => h9) rfl (tyX1_ok 0 (by decide)) rfl rfl (Nat.le_of_ble_eq_true rfl) dX1_house5_9 (fun H locs hP hD hS => ?_)
  have hP : va_P D vwCl [(q_t, .inr (1, [.int y1, .int t_sat, .int t_hour, .ref q_t_ills, .ref q_t_roomOf, .ref q_t_effects, .ref q_t_badFor, .ref q_t_likes, .ref q_t_sights])), (q_t_ills, .inl (G 0, 18, .inl t_ills)), (q_t_roomOf, .inl (G 0, 6, .inl t_roomOf))] H := hP
  have hD : va_D A [(q_t, .inr (1, [.int y1, .int t_sat, .int t_hour, .ref q_t_ills, .ref q_t_roomOf, .ref q_t_effects, .ref q_t_badFor, .ref q_t_likes, .ref q_t_sights])), (q_t_ills, .inl (G 0, 18, .inl t_ills)), (q_t_roomOf, .inl (G 0, 6, .inl t_roomOf))] := hD
  refine lv_aload_n hx hb dX1_house5_12 rfl (lv_at hl 0 rfl) ?_
  refine lv_dup hx hb dX1_house5_13 rfl ?_
  refine va_get (D := D) (ci := 1) (v := .int t_sat) (C := RX1) (T := TX1) (N := 9) hx hb hts inX1 hown hK hP 0 rfl rfl 1 (by decide) (hts _ lfX1_38) (fun _ h9 => h9) rfl dX1_house5_14 ?_
  refine lv_iconst (v := (1 : Int32)) hx hb dX1_house5_17 (by decide) ?_
  refine lv_iload_n hx hb dX1_house5_18 rfl (lv_at hl 1 rfl) ?_
  refine lv_ishl hx hb dX1_house5_19 ?_
  refine lv_iconst (v := (-1 : Int32)) hx hb dX1_house5_20 (by decide) ?_
  refine lv_ixor hx hb dX1_house5_21 ?_
  refine lv_iand hx hb dX1_house5_22 ?_
  refine lv_topi (fun y2 ey2 => ?_)
  have hf := nmeU ey2 hf
  refine va_put (D := D) (ci := 1) (v := .int y2) (ty := .int) (C := RX1) (T := TX1) (N := 9) hx hb hts inX1 tyX1 tyX1_ok nmX1 hown hK hP hD hS 0 rfl rfl 1 (by decide) (hts _ lfX1_38) (fun _ h9 => h9) rfl (tyX1_ok 1 (by decide)) rfl rfl (Nat.le_of_ble_eq_true rfl) dX1_house5_23 (fun H locs hP hD hS => ?_)
  have hP : va_P D vwCl [(q_t, .inr (1, [.int y1, .int y2, .int t_hour, .ref q_t_ills, .ref q_t_roomOf, .ref q_t_effects, .ref q_t_badFor, .ref q_t_likes, .ref q_t_sights])), (q_t_ills, .inl (G 0, 18, .inl t_ills)), (q_t_roomOf, .inl (G 0, 6, .inl t_roomOf))] H := hP
  have hD : va_D A [(q_t, .inr (1, [.int y1, .int y2, .int t_hour, .ref q_t_ills, .ref q_t_roomOf, .ref q_t_effects, .ref q_t_badFor, .ref q_t_likes, .ref q_t_sights])), (q_t_ills, .inl (G 0, 18, .inl t_ills)), (q_t_roomOf, .inl (G 0, 6, .inl t_roomOf))] := hD
  refine lv_aload_n hx hb dX1_house5_26 rfl (lv_at hl 0 rfl) ?_
  refine va_get (D := D) (ci := 1) (v := .ref q_t_roomOf) (C := RX1) (T := TX1) (N := 9) hx hb hts inX1 hown hK hP 0 rfl rfl 4 (by decide) (hts _ lfX1_15) (fun _ h9 => h9) rfl dX1_house5_27 ?_
  refine lv_iload_n hx hb dX1_house5_30 rfl (lv_at hl 1 rfl) ?_
  refine lv_iconst (v := (0 : Int32)) hx hb dX1_house5_31 (by decide) ?_
  obtain ⟨g3, eg3, ig3, hf⟩ := stIE hf
  refine k_iast hx hb hK hP hD hS 2 0 rfl rfl ig3 eg3 dX1_house5_32 (fun H locs hP hD hS => ?_)
  have hP : va_P D vwCl [(q_t, .inr (1, [.int y1, .int y2, .int t_hour, .ref q_t_ills, .ref q_t_roomOf, .ref q_t_effects, .ref q_t_badFor, .ref q_t_likes, .ref q_t_sights])), (q_t_ills, .inl (G 0, 18, .inl t_ills)), (q_t_roomOf, .inl (G 0, 6, .inl g3))] H := hP
  have hD : va_D A [(q_t, .inr (1, [.int y1, .int y2, .int t_hour, .ref q_t_ills, .ref q_t_roomOf, .ref q_t_effects, .ref q_t_badFor, .ref q_t_likes, .ref q_t_sights])), (q_t_ills, .inl (G 0, 18, .inl t_ills)), (q_t_roomOf, .inl (G 0, 6, .inl g3))] := hD
  refine lv_aload_n hx hb dX1_house5_33 rfl (lv_at hl 0 rfl) ?_
  refine va_get (D := D) (ci := 1) (v := .ref q_t_ills) (C := RX1) (T := TX1) (N := 9) hx hb hts inX1 hown hK hP 0 rfl rfl 3 (by decide) (hts _ lfX1_9) (fun _ h9 => h9) rfl dX1_house5_34 ?_
  refine lv_iload_n hx hb dX1_house5_37 rfl (lv_at hl 1 rfl) ?_
  refine lv_iconst (v := (3 : Int32)) hx hb dX1_house5_38 (by decide) ?_
  refine lv_imul hx hb dX1_house5_39 ?_
  refine lv_iconst (v := (0 : Int32)) hx hb dX1_house5_40 (by decide) ?_
  refine lv_iadd hx hb dX1_house5_41 ?_
  refine lv_iload_n hx hb dX1_house5_42 rfl (lv_at hl 2 rfl) ?_
  obtain ⟨g4, eg4, ig4, hf⟩ := stIE hf
  refine k_iast hx hb hK hP hD hS 1 0 rfl rfl ig4 eg4 dX1_house5_43 (fun H locs hP hD hS => ?_)
  have hP : va_P D vwCl [(q_t, .inr (1, [.int y1, .int y2, .int t_hour, .ref q_t_ills, .ref q_t_roomOf, .ref q_t_effects, .ref q_t_badFor, .ref q_t_likes, .ref q_t_sights])), (q_t_ills, .inl (G 0, 18, .inl g4)), (q_t_roomOf, .inl (G 0, 6, .inl g3))] H := hP
  have hD : va_D A [(q_t, .inr (1, [.int y1, .int y2, .int t_hour, .ref q_t_ills, .ref q_t_roomOf, .ref q_t_effects, .ref q_t_badFor, .ref q_t_likes, .ref q_t_sights])), (q_t_ills, .inl (G 0, 18, .inl g4)), (q_t_roomOf, .inl (G 0, 6, .inl g3))] := hD
  refine lv_aload_n hx hb dX1_house5_44 rfl (lv_at hl 0 rfl) ?_
  refine va_get (D := D) (ci := 1) (v := .ref q_t_ills) (C := RX1) (T := TX1) (N := 9) hx hb hts inX1 hown hK hP 0 rfl rfl 3 (by decide) (hts _ lfX1_9) (fun _ h9 => h9) rfl dX1_house5_45 ?_
  refine lv_iload_n hx hb dX1_house5_48 rfl (lv_at hl 1 rfl) ?_
  refine lv_iconst (v := (3 : Int32)) hx hb dX1_house5_49 (by decide) ?_
  refine lv_imul hx hb dX1_house5_50 ?_
  refine lv_iconst (v := (1 : Int32)) hx hb dX1_house5_51 (by decide) ?_
  refine lv_iadd hx hb dX1_house5_52 ?_
  refine lv_iload_n hx hb dX1_house5_53 rfl (lv_at hl 3 rfl) ?_
  obtain ⟨g5, eg5, ig5, hf⟩ := stIE hf
  refine k_iast hx hb hK hP hD hS 1 0 rfl rfl ig5 eg5 dX1_house5_54 (fun H locs hP hD hS => ?_)
  have hP : va_P D vwCl [(q_t, .inr (1, [.int y1, .int y2, .int t_hour, .ref q_t_ills, .ref q_t_roomOf, .ref q_t_effects, .ref q_t_badFor, .ref q_t_likes, .ref q_t_sights])), (q_t_ills, .inl (G 0, 18, .inl g5)), (q_t_roomOf, .inl (G 0, 6, .inl g3))] H := hP
  have hD : va_D A [(q_t, .inr (1, [.int y1, .int y2, .int t_hour, .ref q_t_ills, .ref q_t_roomOf, .ref q_t_effects, .ref q_t_badFor, .ref q_t_likes, .ref q_t_sights])), (q_t_ills, .inl (G 0, 18, .inl g5)), (q_t_roomOf, .inl (G 0, 6, .inl g3))] := hD
  refine lv_aload_n hx hb dX1_house5_55 rfl (lv_at hl 0 rfl) ?_
  refine va_get (D := D) (ci := 1) (v := .ref q_t_ills) (C := RX1) (T := TX1) (N := 9) hx hb hts inX1 hown hK hP 0 rfl rfl 3 (by decide) (hts _ lfX1_9) (fun _ h9 => h9) rfl dX1_house5_56 ?_
  refine lv_iload_n hx hb dX1_house5_59 rfl (lv_at hl 1 rfl) ?_
  refine lv_iconst (v := (3 : Int32)) hx hb dX1_house5_60 (by decide) ?_
  refine lv_imul hx hb dX1_house5_61 ?_
  refine lv_iconst (v := (2 : Int32)) hx hb dX1_house5_62 (by decide) ?_
  refine lv_iadd hx hb dX1_house5_63 ?_
  refine lv_iload hx hb dX1_house5_64 (lv_at hl 4 rfl) ?_
  obtain ⟨g6, eg6, ig6, hf⟩ := stIE hf
  refine k_iast hx hb hK hP hD hS 1 0 rfl rfl ig6 eg6 dX1_house5_66 (fun H locs hP hD hS => ?_)
  have hP : va_P D vwCl [(q_t, .inr (1, [.int y1, .int y2, .int t_hour, .ref q_t_ills, .ref q_t_roomOf, .ref q_t_effects, .ref q_t_badFor, .ref q_t_likes, .ref q_t_sights])), (q_t_ills, .inl (G 0, 18, .inl g6)), (q_t_roomOf, .inl (G 0, 6, .inl g3))] H := hP
  have hD : va_D A [(q_t, .inr (1, [.int y1, .int y2, .int t_hour, .ref q_t_ills, .ref q_t_roomOf, .ref q_t_effects, .ref q_t_badFor, .ref q_t_likes, .ref q_t_sights])), (q_t_ills, .inl (G 0, 18, .inl g6)), (q_t_roomOf, .inl (G 0, 6, .inl g3))] := hD
  exact RT _ _ _ _ hf _ _ _ H locs dX1_house5_67 rkV hP hD hS
set_option maxHeartbeats 4000000 in
set_option maxRecDepth 100000 in
theorem kX1_changeOf (l : Launch) (D : va_G) (G : Nat → ClassId) (fu : Nat) (q_t q_t_ills q_t_roomOf q_t_effects q_t_badFor q_t_likes q_t_sights : Nat) (t_there : Int32) (t_sat : Int32) (t_hour : Int32) (t_effects : Nat → Int32) (t_badFor : Nat → Int32) (v1 : Int32) (v2 : Int32) (v3 : Int32) (v4 : Int32) {r : Int32} (hf : fX1_changeOf fu t_effects t_badFor v1 v2 v3 v4 = some r) : rO l D G yX1_changeOf cX1_changeOf 7 (some .int) 1 60 [.ref q_t, .int v1, .int v2, .int v3, .int v4] [(q_t, .inr (1, [.int t_there, .int t_sat, .int t_hour, .ref q_t_ills, .ref q_t_roomOf, .ref q_t_effects, .ref q_t_badFor, .ref q_t_likes, .ref q_t_sights])), (q_t_effects, .inl (G 0, 12, .inl t_effects)), (q_t_badFor, .inl (G 0, 36, .inl t_badFor))] (some (.int r)) := by
  refine rO_of (by decide) (Nat.le_of_ble_eq_true rfl) ?_
  intro p e s m args below meth c Q hx hb hml hown hts hK hn hP RET ls hl
  have RT : ∀ (a0_ : Int32), some a0_ = some r → ∀ (pc : Nat) (ls : Array Slot) (ins : Instr), decode cX1_changeOf pc = .ok (ins, 1) → rk (some .int) (some (.int a0_)) ins → W p l e (kR 1 60) s m args below meth c s.heap [] 0 0 Q (F0 m pc ls [.int a0_]) := by
    intro a0_ hy; obtain rfl := sm1 hy
    exact RET
  have hown : s.vm.findClass RX1 = some m.cls := hown
  have hl : lv_has ls 7 [(0, .ref q_t), (1, .int v1), (2, .int v2), (3, .int v3), (4, .int v4)] := hl
  clear RET
  rw [fX1_changeOf] at hf
  refine lv_aload_n hx hb dX1_changeOf_0 rfl (lv_at hl 0 rfl) ?_
  refine va_get (D := D) (ci := 1) (v := .ref q_t_effects) (C := RX1) (T := TX1) (N := 9) hx hb hts inX1 hown hK hP 0 rfl rfl 5 (by decide) (hts _ lfX1_18) (fun _ h9 => h9) rfl dX1_changeOf_1 ?_
  refine lv_iload_n hx hb dX1_changeOf_4 rfl (lv_at hl 3 rfl) ?_
  refine lv_iconst (v := (3 : Int32)) hx hb dX1_changeOf_5 (by decide) ?_
  refine lv_imul hx hb dX1_changeOf_6 ?_
  refine lv_iload_n hx hb dX1_changeOf_7 rfl (lv_at hl 2 rfl) ?_
  refine lv_iadd hx hb dX1_changeOf_8 ?_
  obtain ⟨x1, ex1, ix1, hf⟩ := ldIE hf
  refine k_iald hx hb hK hP 1 0 rfl rfl ix1 ex1 dX1_changeOf_9 ?_
  refine lv_istore (lv' := [(5, .int x1), (0, .ref q_t), (1, .int v1), (2, .int v2), (3, .int v3), (4, .int v4)]) hx hb dX1_changeOf_10 hl (by decide) rfl (fun ls hl => ?_)
  refine lv_iload_n hx hb dX1_changeOf_12 rfl (lv_at hl 3 rfl) ?_
  refine lv_iconst (v := (1 : Int32)) hx hb dX1_changeOf_13 (by decide) ?_
  obtain ⟨j30, h61, hf⟩ := bd1E hf
  have E32 : ∀ (z31 : Int32), some z31 = some j30 → ∀ ls : Array Slot, lv_has ls 7 [(5, .int z31)] → W p l e (kR 1 60) s m args below meth c s.heap [] 0 0 Q (F0 m 58 ls []) := by
    intro z31 hy; obtain rfl := sm1 hy
    intro ls hl
    refine lv_iload hx hb dX1_changeOf_58 (lv_at hl 0 rfl) ?_
    exact RT _ hf _ _ _ dX1_changeOf_60 (rkI _)
  have hf := h61
  refine lv_icmp_ne (tgt := 58) hx hb dX1_changeOf_14 (by decide) (fun c33 => ?_) (fun c33 => ?_)
  · have hf := ifn c33 hf
    exact E32 _ hf ls (lv_sub hl [0] rfl)
  · have hf := ifp c33 hf
    refine lv_iconst (v := (0 : Int32)) hx hb dX1_changeOf_17 (by decide) ?_
    refine lv_istore (lv' := [(6, .int (0 : Int32)), (5, .int x1), (0, .ref q_t), (1, .int v1), (2, .int v2), (3, .int v3), (4, .int v4)]) hx hb dX1_changeOf_18 hl (by decide) rfl (fun ls hl => ?_)
    obtain ⟨u49, h53, hf⟩ := bd1E hf
    have E50 : ∀ (z60 : Int32), some z60 = some u49 → ∀ ls : Array Slot, lv_has ls 7 [(5, .int z60)] → W p l e (kR 1 60) s m args below meth c s.heap [] 0 0 Q (F0 m 58 ls []) := by
      intro z60 hy; obtain rfl := sm1 hy
      intro ls hl
      exact E32 _ hf ls (lv_sub hl [0] rfl)
    have L51 : ∀ (k : Nat) (w47 : Int32) (w48 : Int32), fX1_changeOf_20 t_badFor v1 v4 k w47 w48 = some u49 → ∀ ls : Array Slot, lv_has ls 7 [(0, .ref q_t), (1, .int v1), (4, .int v4), (5, .int w47), (6, .int w48)] → W p l e (kR 1 60) s m args below meth c s.heap [] 0 0 Q (F0 m 20 ls []) := by
      intro k; induction k with
      | zero => intro w47 w48 hf; exact nosome hf
      | succ k ih =>
        intro w47 w48 hf; rw [fX1_changeOf_20] at hf
        intro ls hl
        refine lv_iload hx hb dX1_changeOf_20 (lv_at hl 4 rfl) ?_
        refine lv_bipush (v := (6 : Int32)) hx hb dX1_changeOf_22 (by decide) ?_
        refine lv_icmp_ge (tgt := 58) hx hb dX1_changeOf_24 (by decide) (fun c56 => ?_) (fun c56 => ?_)
        · have hf := ifp c56 hf
          exact E50 _ hf ls (lv_sub hl [3] rfl)
        · have hf := ifn c56 hf
          refine lv_iload hx hb dX1_changeOf_27 (lv_at hl 3 rfl) ?_
          refine lv_iload hx hb dX1_changeOf_29 (lv_at hl 2 rfl) ?_
          refine lv_iload hx hb dX1_changeOf_31 (lv_at hl 4 rfl) ?_
          refine lv_ishr hx hb dX1_changeOf_33 ?_
          refine lv_iconst (v := (1 : Int32)) hx hb dX1_changeOf_34 (by decide) ?_
          refine lv_iand hx hb dX1_changeOf_35 ?_
          refine lv_aload_n hx hb dX1_changeOf_36 rfl (lv_at hl 0 rfl) ?_
          refine va_get (D := D) (ci := 1) (v := .ref q_t_badFor) (C := RX1) (T := TX1) (N := 9) hx hb hts inX1 hown hK hP 0 rfl rfl 6 (by decide) (hts _ lfX1_21) (fun _ h9 => h9) rfl dX1_changeOf_37 ?_
          refine lv_iload hx hb dX1_changeOf_40 (lv_at hl 4 rfl) ?_
          refine lv_bipush (v := (6 : Int32)) hx hb dX1_changeOf_42 (by decide) ?_
          refine lv_imul hx hb dX1_changeOf_44 ?_
          refine lv_iload_n hx hb dX1_changeOf_45 rfl (lv_at hl 1 rfl) ?_
          refine lv_iadd hx hb dX1_changeOf_46 ?_
          obtain ⟨x57, ex57, ix57, hf⟩ := ldIE hf
          refine k_iald hx hb hK hP 2 0 rfl rfl ix57 ex57 dX1_changeOf_47 ?_
          refine lv_imul hx hb dX1_changeOf_48 ?_
          refine lv_iadd hx hb dX1_changeOf_49 ?_
          refine lv_topi (fun y58 ey58 => ?_)
          have hf := nmeU ey58 hf
          refine lv_istore (lv' := [(5, .int y58), (0, .ref q_t), (1, .int v1), (4, .int v4), (6, .int w48)]) hx hb dX1_changeOf_50 hl (by decide) rfl (fun ls hl => ?_)
          obtain ⟨y59, ey59⟩ : ∃ y : Int32, y = w48 + (1 : Int32) := ⟨_, rfl⟩
          have hf := nmeU ey59 hf
          refine lv_iinc (v := y59) (lv' := [(6, .int y59), (5, .int y58), (0, .ref q_t), (1, .int v1), (4, .int v4)]) hx hb dX1_changeOf_52 hl (k := 4) rfl (by rw [ey59]; rfl) (by decide) rfl (fun ls hl => ?_)
          refine lv_goto (tgt := 20) hx hb dX1_changeOf_55 (by decide) ?_
          exact ih _ _ hf ls (lv_sub hl [2, 3, 4, 1, 0] rfl)
    exact L51 fu x1 (0 : Int32) h53 ls (lv_sub hl [2, 3, 6, 1, 0] rfl)
set_option maxHeartbeats 4000000 in
set_option maxRecDepth 100000 in
theorem kX1_cutShare (l : Launch) (D : va_G) (G : Nat → ClassId) (v0 : Int32) (v1 : Int32) (v2 : Int32) {r : Int32} (hf : fX1_cutShare v0 v1 v2 = some r) : rO l D G yX1_cutShare cX1_cutShare 3 (some .int) 1 60 [.int v0, .int v1, .int v2] [] (some (.int r)) := by
  refine rO_of (by decide) (Nat.le_of_ble_eq_true rfl) ?_
  intro p e s m args below meth c Q hx hb hml hown hts hK hn hP RET ls hl
  have RT : ∀ (a0_ : Int32), some a0_ = some r → ∀ (pc : Nat) (ls : Array Slot) (ins : Instr), decode cX1_cutShare pc = .ok (ins, 1) → rk (some .int) (some (.int a0_)) ins → W p l e (kR 1 60) s m args below meth c s.heap [] 0 0 Q (F0 m pc ls [.int a0_]) := by
    intro a0_ hy; obtain rfl := sm1 hy
    exact RET
  have hown : s.vm.findClass RX1 = some m.cls := hown
  have hl : lv_has ls 3 [(0, .int v0), (1, .int v1), (2, .int v2)] := hl
  clear RET
  rw [fX1_cutShare] at hf
  refine lv_iload_n hx hb dX1_cutShare_0 rfl (lv_at hl 2 rfl) ?_
  refine lv_iconst (v := (1 : Int32)) hx hb dX1_cutShare_1 (by decide) ?_
  refine lv_icmp_ge (tgt := 9) hx hb dX1_cutShare_2 (by decide) (fun c1 => ?_) (fun c1 => ?_)
  · have hf := ifp c1 hf
    refine lv_iload_n hx hb dX1_cutShare_9 rfl (lv_at hl 0 rfl) ?_
    refine lv_iload_n hx hb dX1_cutShare_10 rfl (lv_at hl 1 rfl) ?_
    refine lv_imul hx hb dX1_cutShare_11 ?_
    refine lv_iload_n hx hb dX1_cutShare_12 rfl (lv_at hl 2 rfl) ?_
    obtain ⟨h2, hf⟩ := dvIE hf
    refine lv_idiv hx hb dX1_cutShare_13 h2 ?_
    generalize ((v0 * v1) / v2) = x3 at hf ⊢
    exact RT _ hf _ _ _ dX1_cutShare_14 (rkI _)
  · have hf := ifn c1 hf
    refine lv_iconst (v := (0 : Int32)) hx hb dX1_cutShare_5 (by decide) ?_
    refine lv_goto (tgt := 14) hx hb dX1_cutShare_6 (by decide) ?_
    exact RT _ hf _ _ _ dX1_cutShare_14 (rkI _)
set_option maxHeartbeats 4000000 in
set_option maxRecDepth 100000 in
theorem kX1_effectOn (l : Launch) (D : va_G) (G : Nat → ClassId) (q_t q_t_ills q_t_roomOf q_t_effects q_t_badFor q_t_likes q_t_sights : Nat) (t_there : Int32) (t_sat : Int32) (t_hour : Int32) (t_roomOf : Nat → Int32) (t_effects : Nat → Int32) (v1 : Int32) (v2 : Int32) {r : Int32} (hf : fX1_effectOn t_roomOf t_effects v1 v2 = some r) : rO l D G yX1_effectOn cX1_effectOn 3 (some .int) 1 60 [.ref q_t, .int v1, .int v2] [(q_t, .inr (1, [.int t_there, .int t_sat, .int t_hour, .ref q_t_ills, .ref q_t_roomOf, .ref q_t_effects, .ref q_t_badFor, .ref q_t_likes, .ref q_t_sights])), (q_t_roomOf, .inl (G 0, 6, .inl t_roomOf)), (q_t_effects, .inl (G 0, 12, .inl t_effects))] (some (.int r)) := by
  refine rO_of (by decide) (Nat.le_of_ble_eq_true rfl) ?_
  intro p e s m args below meth c Q hx hb hml hown hts hK hn hP RET ls hl
  have RT : ∀ (a0_ : Int32), some a0_ = some r → ∀ (pc : Nat) (ls : Array Slot) (ins : Instr), decode cX1_effectOn pc = .ok (ins, 1) → rk (some .int) (some (.int a0_)) ins → W p l e (kR 1 60) s m args below meth c s.heap [] 0 0 Q (F0 m pc ls [.int a0_]) := by
    intro a0_ hy; obtain rfl := sm1 hy
    exact RET
  have hown : s.vm.findClass RX1 = some m.cls := hown
  have hl : lv_has ls 3 [(0, .ref q_t), (1, .int v1), (2, .int v2)] := hl
  clear RET
  rw [fX1_effectOn] at hf
  refine lv_aload_n hx hb dX1_effectOn_0 rfl (lv_at hl 0 rfl) ?_
  refine va_get (D := D) (ci := 1) (v := .ref q_t_effects) (C := RX1) (T := TX1) (N := 9) hx hb hts inX1 hown hK hP 0 rfl rfl 5 (by decide) (hts _ lfX1_18) (fun _ h9 => h9) rfl dX1_effectOn_1 ?_
  refine lv_aload_n hx hb dX1_effectOn_4 rfl (lv_at hl 0 rfl) ?_
  refine va_get (D := D) (ci := 1) (v := .ref q_t_roomOf) (C := RX1) (T := TX1) (N := 9) hx hb hts inX1 hown hK hP 0 rfl rfl 4 (by decide) (hts _ lfX1_15) (fun _ h9 => h9) rfl dX1_effectOn_5 ?_
  refine lv_iload_n hx hb dX1_effectOn_8 rfl (lv_at hl 1 rfl) ?_
  obtain ⟨x1, ex1, ix1, hf⟩ := ldIE hf
  refine k_iald hx hb hK hP 1 0 rfl rfl ix1 ex1 dX1_effectOn_9 ?_
  refine lv_iconst (v := (3 : Int32)) hx hb dX1_effectOn_10 (by decide) ?_
  refine lv_imul hx hb dX1_effectOn_11 ?_
  refine lv_iload_n hx hb dX1_effectOn_12 rfl (lv_at hl 2 rfl) ?_
  refine lv_iadd hx hb dX1_effectOn_13 ?_
  obtain ⟨x2, ex2, ix2, hf⟩ := ldIE hf
  refine k_iald hx hb hK hP 2 0 rfl rfl ix2 ex2 dX1_effectOn_14 ?_
  exact RT _ hf _ _ _ dX1_effectOn_15 (rkI _)
set_option maxHeartbeats 4000000 in
set_option maxRecDepth 100000 in
theorem kX1_illOf (l : Launch) (D : va_G) (G : Nat → ClassId) (q_t q_t_ills q_t_roomOf q_t_effects q_t_badFor q_t_likes q_t_sights : Nat) (t_there : Int32) (t_sat : Int32) (t_hour : Int32) (t_ills : Nat → Int32) (v1 : Int32) (v2 : Int32) {r : Int32} (hf : fX1_illOf t_ills v1 v2 = some r) : rO l D G yX1_illOf cX1_illOf 3 (some .int) 1 60 [.ref q_t, .int v1, .int v2] [(q_t, .inr (1, [.int t_there, .int t_sat, .int t_hour, .ref q_t_ills, .ref q_t_roomOf, .ref q_t_effects, .ref q_t_badFor, .ref q_t_likes, .ref q_t_sights])), (q_t_ills, .inl (G 0, 18, .inl t_ills))] (some (.int r)) := by
  refine rO_of (by decide) (Nat.le_of_ble_eq_true rfl) ?_
  intro p e s m args below meth c Q hx hb hml hown hts hK hn hP RET ls hl
  have RT : ∀ (a0_ : Int32), some a0_ = some r → ∀ (pc : Nat) (ls : Array Slot) (ins : Instr), decode cX1_illOf pc = .ok (ins, 1) → rk (some .int) (some (.int a0_)) ins → W p l e (kR 1 60) s m args below meth c s.heap [] 0 0 Q (F0 m pc ls [.int a0_]) := by
    intro a0_ hy; obtain rfl := sm1 hy
    exact RET
  have hown : s.vm.findClass RX1 = some m.cls := hown
  have hl : lv_has ls 3 [(0, .ref q_t), (1, .int v1), (2, .int v2)] := hl
  clear RET
  rw [fX1_illOf] at hf
  refine lv_aload_n hx hb dX1_illOf_0 rfl (lv_at hl 0 rfl) ?_
  refine va_get (D := D) (ci := 1) (v := .ref q_t_ills) (C := RX1) (T := TX1) (N := 9) hx hb hts inX1 hown hK hP 0 rfl rfl 3 (by decide) (hts _ lfX1_9) (fun _ h9 => h9) rfl dX1_illOf_1 ?_
  refine lv_iload_n hx hb dX1_illOf_4 rfl (lv_at hl 1 rfl) ?_
  refine lv_iconst (v := (3 : Int32)) hx hb dX1_illOf_5 (by decide) ?_
  refine lv_imul hx hb dX1_illOf_6 ?_
  refine lv_iload_n hx hb dX1_illOf_7 rfl (lv_at hl 2 rfl) ?_
  refine lv_iadd hx hb dX1_illOf_8 ?_
  obtain ⟨x1, ex1, ix1, hf⟩ := ldIE hf
  refine k_iald hx hb hK hP 1 0 rfl rfl ix1 ex1 dX1_illOf_9 ?_
  exact RT _ hf _ _ _ dX1_illOf_10 (rkI _)
set_option maxHeartbeats 4000000 in
set_option maxRecDepth 100000 in
theorem kX1_illsOf (l : Launch) (D : va_G) (G : Nat → ClassId) (q_t q_t_ills q_t_roomOf q_t_effects q_t_badFor q_t_likes q_t_sights : Nat) (t_there : Int32) (t_sat : Int32) (t_hour : Int32) (t_ills : Nat → Int32) (v1 : Int32) {r : Int32} (hf : fX1_illsOf t_ills v1 = some r) : rO l D G yX1_illsOf cX1_illsOf 2 (some .int) 2 82 [.ref q_t, .int v1] [(q_t, .inr (1, [.int t_there, .int t_sat, .int t_hour, .ref q_t_ills, .ref q_t_roomOf, .ref q_t_effects, .ref q_t_badFor, .ref q_t_likes, .ref q_t_sights])), (q_t_ills, .inl (G 0, 18, .inl t_ills))] (some (.int r)) := by
  refine rO_of (by decide) (Nat.le_of_ble_eq_true rfl) ?_
  intro p e s m args below meth c Q hx hb hml hown hts hK hn hP RET ls hl
  have RT : ∀ (a0_ : Int32), some a0_ = some r → ∀ (pc : Nat) (ls : Array Slot) (ins : Instr), decode cX1_illsOf pc = .ok (ins, 1) → rk (some .int) (some (.int a0_)) ins → W p l e (kR 2 82) s m args below meth c s.heap [] 0 0 Q (F0 m pc ls [.int a0_]) := by
    intro a0_ hy; obtain rfl := sm1 hy
    exact RET
  have hown : s.vm.findClass RX1 = some m.cls := hown
  have hl : lv_has ls 2 [(0, .ref q_t), (1, .int v1)] := hl
  clear RET
  rw [fX1_illsOf] at hf
  refine lv_aload_n hx hb dX1_illsOf_0 rfl (lv_at hl 0 rfl) ?_
  refine lv_iload_n hx hb dX1_illsOf_1 rfl (lv_at hl 1 rfl) ?_
  refine lv_iconst (v := (0 : Int32)) hx hb dX1_illsOf_2 (by decide) ?_
  obtain ⟨r1, h2, hf⟩ := bd1E hf
  refine kO_virt hx hb hml hown hts hK hn hP (kX1_illOf l D G q_t q_t_ills q_t_roomOf q_t_effects q_t_badFor q_t_likes q_t_sights t_there t_sat t_hour t_ills v1 (0 : Int32) h2) cvX1_54 ⟨Nat.le_of_ble_eq_true rfl, Nat.le_of_ble_eq_true rfl⟩ [0, 1] rfl 0 rfl rfl rfl hl.1 rfl (Nat.le_of_ble_eq_true rfl) ⟨Nat.zero_le _, Nat.zero_le _⟩ dX1_illsOf_3 ?_
  refine lv_aload_n hx hb dX1_illsOf_6 rfl (lv_at hl 0 rfl) ?_
  refine lv_iload_n hx hb dX1_illsOf_7 rfl (lv_at hl 1 rfl) ?_
  refine lv_iconst (v := (1 : Int32)) hx hb dX1_illsOf_8 (by decide) ?_
  obtain ⟨r3, h4, hf⟩ := bd1E hf
  refine kO_virt hx hb hml hown hts hK hn hP (kX1_illOf l D G q_t q_t_ills q_t_roomOf q_t_effects q_t_badFor q_t_likes q_t_sights t_there t_sat t_hour t_ills v1 (1 : Int32) h4) cvX1_54 ⟨Nat.le_of_ble_eq_true rfl, Nat.le_of_ble_eq_true rfl⟩ [0, 1] rfl 0 rfl rfl rfl hl.1 rfl (Nat.le_of_ble_eq_true rfl) ⟨Nat.zero_le _, Nat.zero_le _⟩ dX1_illsOf_9 ?_
  refine lv_iadd hx hb dX1_illsOf_12 ?_
  refine lv_aload_n hx hb dX1_illsOf_13 rfl (lv_at hl 0 rfl) ?_
  refine lv_iload_n hx hb dX1_illsOf_14 rfl (lv_at hl 1 rfl) ?_
  refine lv_iconst (v := (2 : Int32)) hx hb dX1_illsOf_15 (by decide) ?_
  obtain ⟨r5, h6, hf⟩ := bd1E hf
  refine kO_virt hx hb hml hown hts hK hn hP (kX1_illOf l D G q_t q_t_ills q_t_roomOf q_t_effects q_t_badFor q_t_likes q_t_sights t_there t_sat t_hour t_ills v1 (2 : Int32) h6) cvX1_54 ⟨Nat.le_of_ble_eq_true rfl, Nat.le_of_ble_eq_true rfl⟩ [0, 1] rfl 0 rfl rfl rfl hl.1 rfl (Nat.le_of_ble_eq_true rfl) ⟨Nat.zero_le _, Nat.zero_le _⟩ dX1_illsOf_16 ?_
  refine lv_iadd hx hb dX1_illsOf_19 ?_
  exact RT _ hf _ _ _ dX1_illsOf_20 (rkI _)
set_option maxHeartbeats 4000000 in
set_option maxRecDepth 100000 in
theorem kX7_hoursUntilGone (l : Launch) (D : va_G) (G : Nat → ClassId) (v0 : Int32) (v1 : Int32) {r : Int32} (hf : fX7_hoursUntilGone v0 v1 = some r) : rO l D G yX7_hoursUntilGone cX7_hoursUntilGone 2 (some .int) 1 60 [.int v0, .int v1] [] (some (.int r)) := by
  refine rO_of (by decide) (Nat.le_of_ble_eq_true rfl) ?_
  intro p e s m args below meth c Q hx hb hml hown hts hK hn hP RET ls hl
  have RT : ∀ (a0_ : Int32), some a0_ = some r → ∀ (pc : Nat) (ls : Array Slot) (ins : Instr), decode cX7_hoursUntilGone pc = .ok (ins, 1) → rk (some .int) (some (.int a0_)) ins → W p l e (kR 1 60) s m args below meth c s.heap [] 0 0 Q (F0 m pc ls [.int a0_]) := by
    intro a0_ hy; obtain rfl := sm1 hy
    exact RET
  have hown : s.vm.findClass RX7 = some m.cls := hown
  have hl : lv_has ls 2 [(0, .int v0), (1, .int v1)] := hl
  clear RET
  rw [fX7_hoursUntilGone] at hf
  refine lv_iload_n hx hb dX7_hoursUntilGone_0 rfl (lv_at hl 0 rfl) ?_
  refine lv_if_ne (tgt := 10) hx hb dX7_hoursUntilGone_1 (by decide) (fun c1 => ?_) (fun c1 => ?_)
  · have hf := ifn c1 hf
    refine lv_iload_n hx hb dX7_hoursUntilGone_10 rfl (lv_at hl 1 rfl) ?_
    refine lv_if_lt (tgt := 18) hx hb dX7_hoursUntilGone_11 (by decide) (fun c2 => ?_) (fun c2 => ?_)
    · have hf := ifp c2 hf
      refine lv_iload_n hx hb dX7_hoursUntilGone_18 rfl (lv_at hl 0 rfl) ?_
      refine lv_iload_n hx hb dX7_hoursUntilGone_19 rfl (lv_at hl 1 rfl) ?_
      refine lv_isub hx hb dX7_hoursUntilGone_20 ?_
      refine lv_iconst (v := (1 : Int32)) hx hb dX7_hoursUntilGone_21 (by decide) ?_
      refine lv_isub hx hb dX7_hoursUntilGone_22 ?_
      refine lv_iload_n hx hb dX7_hoursUntilGone_23 rfl (lv_at hl 1 rfl) ?_
      refine lv_ineg hx hb dX7_hoursUntilGone_24 ?_
      obtain ⟨h3, hf⟩ := dvIE hf
      refine lv_idiv hx hb dX7_hoursUntilGone_25 h3 ?_
      generalize (((v0 - v1) - (1 : Int32)) / (-v1)) = x4 at hf ⊢
      exact RT _ hf _ _ _ dX7_hoursUntilGone_26 (rkI _)
    · have hf := ifn c2 hf
      refine lv_sipush (v := (1000 : Int32)) hx hb dX7_hoursUntilGone_14 (by decide) ?_
      exact RT _ hf _ _ _ dX7_hoursUntilGone_17 (rkI _)
  · have hf := ifp c1 hf
    refine lv_iload_n hx hb dX7_hoursUntilGone_4 rfl (lv_at hl 1 rfl) ?_
    refine lv_if_gt (tgt := 10) hx hb dX7_hoursUntilGone_5 (by decide) (fun c5 => ?_) (fun c5 => ?_)
    · have hf := ifp c5 hf
      refine lv_iload_n hx hb dX7_hoursUntilGone_10 rfl (lv_at hl 1 rfl) ?_
      refine lv_if_lt (tgt := 18) hx hb dX7_hoursUntilGone_11 (by decide) (fun c6 => ?_) (fun c6 => ?_)
      · have hf := ifp c6 hf
        refine lv_iload_n hx hb dX7_hoursUntilGone_18 rfl (lv_at hl 0 rfl) ?_
        refine lv_iload_n hx hb dX7_hoursUntilGone_19 rfl (lv_at hl 1 rfl) ?_
        refine lv_isub hx hb dX7_hoursUntilGone_20 ?_
        refine lv_iconst (v := (1 : Int32)) hx hb dX7_hoursUntilGone_21 (by decide) ?_
        refine lv_isub hx hb dX7_hoursUntilGone_22 ?_
        refine lv_iload_n hx hb dX7_hoursUntilGone_23 rfl (lv_at hl 1 rfl) ?_
        refine lv_ineg hx hb dX7_hoursUntilGone_24 ?_
        obtain ⟨h7, hf⟩ := dvIE hf
        refine lv_idiv hx hb dX7_hoursUntilGone_25 h7 ?_
        generalize (((v0 - v1) - (1 : Int32)) / (-v1)) = x8 at hf ⊢
        exact RT _ hf _ _ _ dX7_hoursUntilGone_26 (rkI _)
      · have hf := ifn c6 hf
        refine lv_sipush (v := (1000 : Int32)) hx hb dX7_hoursUntilGone_14 (by decide) ?_
        exact RT _ hf _ _ _ dX7_hoursUntilGone_17 (rkI _)
    · have hf := ifn c5 hf
      refine lv_iconst (v := (0 : Int32)) hx hb dX7_hoursUntilGone_8 (by decide) ?_
      exact RT _ hf _ _ _ dX7_hoursUntilGone_9 (rkI _)
set_option maxHeartbeats 4000000 in
set_option maxRecDepth 100000 in
theorem kX1_hoursToLoseAll (l : Launch) (D : va_G) (G : Nat → ClassId) (fu : Nat) (q_t q_t_ills q_t_roomOf q_t_effects q_t_badFor q_t_likes q_t_sights : Nat) (t_there : Int32) (t_sat : Int32) (t_hour : Int32) (t_ills : Nat → Int32) (t_effects : Nat → Int32) (t_badFor : Nat → Int32) (v1 : Int32) (v2 : Int32) (v3 : Int32) {r : Int32} (hf : fX1_hoursToLoseAll fu t_ills t_effects t_badFor v1 v2 v3 = some r) : rO l D G yX1_hoursToLoseAll cX1_hoursToLoseAll 7 (some .int) 2 86 [.ref q_t, .int v1, .int v2, .int v3] [(q_t, .inr (1, [.int t_there, .int t_sat, .int t_hour, .ref q_t_ills, .ref q_t_roomOf, .ref q_t_effects, .ref q_t_badFor, .ref q_t_likes, .ref q_t_sights])), (q_t_ills, .inl (G 0, 18, .inl t_ills)), (q_t_effects, .inl (G 0, 12, .inl t_effects)), (q_t_badFor, .inl (G 0, 36, .inl t_badFor))] (some (.int r)) := by
  refine rO_of (by decide) (Nat.le_of_ble_eq_true rfl) ?_
  intro p e s m args below meth c Q hx hb hml hown hts hK hn hP RET ls hl
  have RT : ∀ (a0_ : Int32), some a0_ = some r → ∀ (pc : Nat) (ls : Array Slot) (ins : Instr), decode cX1_hoursToLoseAll pc = .ok (ins, 1) → rk (some .int) (some (.int a0_)) ins → W p l e (kR 2 86) s m args below meth c s.heap [] 0 0 Q (F0 m pc ls [.int a0_]) := by
    intro a0_ hy; obtain rfl := sm1 hy
    exact RET
  have hown : s.vm.findClass RX1 = some m.cls := hown
  have hl : lv_has ls 7 [(0, .ref q_t), (1, .int v1), (2, .int v2), (3, .int v3)] := hl
  clear RET
  rw [fX1_hoursToLoseAll] at hf
  refine lv_iconst (v := (0 : Int32)) hx hb dX1_hoursToLoseAll_0 (by decide) ?_
  refine lv_istore (lv' := [(4, .int (0 : Int32)), (0, .ref q_t), (1, .int v1), (2, .int v2), (3, .int v3)]) hx hb dX1_hoursToLoseAll_1 hl (by decide) rfl (fun ls hl => ?_)
  refine lv_iconst (v := (0 : Int32)) hx hb dX1_hoursToLoseAll_3 (by decide) ?_
  refine lv_istore (lv' := [(5, .int (0 : Int32)), (4, .int (0 : Int32)), (0, .ref q_t), (1, .int v1), (2, .int v2), (3, .int v3)]) hx hb dX1_hoursToLoseAll_4 hl (by decide) rfl (fun ls hl => ?_)
  obtain ⟨u23, h27, hf⟩ := bd1E hf
  have E24 : ∀ (z39 : Int32), some z39 = some u23 → ∀ ls : Array Slot, lv_has ls 7 [(4, .int z39)] → W p l e (kR 2 86) s m args below meth c s.heap [] 0 0 Q (F0 m 48 ls []) := by
    intro z39 hy; obtain rfl := sm1 hy
    intro ls hl
    refine lv_iload hx hb dX1_hoursToLoseAll_48 (lv_at hl 0 rfl) ?_
    exact RT _ hf _ _ _ dX1_hoursToLoseAll_50 (rkI _)
  have L25 : ∀ (k : Nat) (w21 : Int32) (w22 : Int32), fX1_hoursToLoseAll_6 fu t_ills v1 t_effects t_badFor v2 v3 k w21 w22 = some u23 → ∀ ls : Array Slot, lv_has ls 7 [(0, .ref q_t), (1, .int v1), (2, .int v2), (3, .int v3), (4, .int w21), (5, .int w22)] → W p l e (kR 2 86) s m args below meth c s.heap [] 0 0 Q (F0 m 6 ls []) := by
    intro k; induction k with
    | zero => intro w21 w22 hf; exact nosome hf
    | succ k ih =>
      intro w21 w22 hf; rw [fX1_hoursToLoseAll_6] at hf
      intro ls hl
      refine lv_iload hx hb dX1_hoursToLoseAll_6 (lv_at hl 5 rfl) ?_
      refine lv_iconst (v := (3 : Int32)) hx hb dX1_hoursToLoseAll_8 (by decide) ?_
      refine lv_icmp_ge (tgt := 48) hx hb dX1_hoursToLoseAll_9 (by decide) (fun c30 => ?_) (fun c30 => ?_)
      · have hf := ifp c30 hf
        exact E24 _ hf ls (lv_sub hl [4] rfl)
      · have hf := ifn c30 hf
        refine lv_aload_n hx hb dX1_hoursToLoseAll_12 rfl (lv_at hl 0 rfl) ?_
        refine lv_iload_n hx hb dX1_hoursToLoseAll_13 rfl (lv_at hl 1 rfl) ?_
        refine lv_iload hx hb dX1_hoursToLoseAll_14 (lv_at hl 5 rfl) ?_
        obtain ⟨r31, h32, hf⟩ := bd1E hf
        refine kO_virt hx hb hml hown hts hK hn hP (kX1_illOf l D G q_t q_t_ills q_t_roomOf q_t_effects q_t_badFor q_t_likes q_t_sights t_there t_sat t_hour t_ills v1 w22 h32) cvX1_54 ⟨Nat.le_of_ble_eq_true rfl, Nat.le_of_ble_eq_true rfl⟩ [0, 1] rfl 0 rfl rfl rfl hl.1 rfl (Nat.le_of_ble_eq_true rfl) ⟨Nat.zero_le _, Nat.zero_le _⟩ dX1_hoursToLoseAll_16 ?_
        refine lv_aload_n hx hb dX1_hoursToLoseAll_19 rfl (lv_at hl 0 rfl) ?_
        refine lv_iload_n hx hb dX1_hoursToLoseAll_20 rfl (lv_at hl 1 rfl) ?_
        refine lv_iload hx hb dX1_hoursToLoseAll_21 (lv_at hl 5 rfl) ?_
        refine lv_iload_n hx hb dX1_hoursToLoseAll_23 rfl (lv_at hl 2 rfl) ?_
        refine lv_iload_n hx hb dX1_hoursToLoseAll_24 rfl (lv_at hl 3 rfl) ?_
        obtain ⟨r33, h34, hf⟩ := bd1E hf
        refine kO_virt hx hb hml hown hts hK hn hP (kX1_changeOf l D G fu q_t q_t_ills q_t_roomOf q_t_effects q_t_badFor q_t_likes q_t_sights t_there t_sat t_hour t_effects t_badFor v1 w22 v2 v3 h34) cvX1_76 ⟨Nat.le_of_ble_eq_true rfl, Nat.le_of_ble_eq_true rfl⟩ [0, 2, 3] rfl 0 rfl rfl rfl hl.1 rfl (Nat.le_of_ble_eq_true rfl) ⟨Nat.zero_le _, Nat.zero_le _⟩ dX1_hoursToLoseAll_25 ?_
        obtain ⟨r35, h36, hf⟩ := bd1E hf
        refine kO_nest hx hb hml hown hts hK hn hP (kX7_hoursUntilGone l D G r31 r33 h36) cnX1_83 ⟨Nat.le_of_ble_eq_true rfl, Nat.le_of_ble_eq_true rfl⟩ [] rfl rfl hl.1 rfl (Nat.le_of_ble_eq_true rfl) ⟨Nat.zero_le _, Nat.zero_le _⟩ dX1_hoursToLoseAll_28 ?_
        refine lv_istore (lv' := [(6, .int r35), (0, .ref q_t), (1, .int v1), (2, .int v2), (3, .int v3), (4, .int w21), (5, .int w22)]) hx hb dX1_hoursToLoseAll_31 hl (by decide) rfl (fun ls hl => ?_)
        refine lv_iload hx hb dX1_hoursToLoseAll_33 (lv_at hl 5 rfl) ?_
        refine lv_iload hx hb dX1_hoursToLoseAll_35 (lv_at hl 0 rfl) ?_
        refine va_mmax hx hb (hml.trans hl.1.symm) hown (hts _ lmX1_86) (hts _ ks_max_int) (hts _ niJ9) (hts _ kc_max_int) (Nat.le_of_ble_eq_true rfl) (Nat.le_of_ble_eq_true rfl) (Nat.le_of_ble_eq_true rfl) (Nat.le_of_ble_eq_true rfl) dX1_hoursToLoseAll_37 ?_
        refine lv_topi (fun y37 ey37 => ?_)
        have hf := nmeU ey37 hf
        refine lv_istore (lv' := [(4, .int y37), (6, .int r35), (0, .ref q_t), (1, .int v1), (2, .int v2), (3, .int v3), (5, .int w22)]) hx hb dX1_hoursToLoseAll_40 hl (by decide) rfl (fun ls hl => ?_)
        obtain ⟨y38, ey38⟩ : ∃ y : Int32, y = w22 + (1 : Int32) := ⟨_, rfl⟩
        have hf := nmeU ey38 hf
        refine lv_iinc (v := y38) (lv' := [(5, .int y38), (4, .int y37), (6, .int r35), (0, .ref q_t), (1, .int v1), (2, .int v2), (3, .int v3)]) hx hb dX1_hoursToLoseAll_42 hl (k := 6) rfl (by rw [ey38]; rfl) (by decide) rfl (fun ls hl => ?_)
        refine lv_goto (tgt := 6) hx hb dX1_hoursToLoseAll_45 (by decide) ?_
        exact ih _ _ hf ls (lv_sub hl [3, 4, 5, 6, 1, 0] rfl)
  exact L25 fu (0 : Int32) (0 : Int32) h27 ls (lv_sub hl [2, 3, 4, 5, 1, 0] rfl)
set_option maxHeartbeats 4000000 in
set_option maxRecDepth 100000 in
theorem kX1_hoursAlone (l : Launch) (D : va_G) (G : Nat → ClassId) (fu : Nat) (q_t q_t_ills q_t_roomOf q_t_effects q_t_badFor q_t_likes q_t_sights : Nat) (t_there : Int32) (t_sat : Int32) (t_hour : Int32) (t_ills : Nat → Int32) (t_effects : Nat → Int32) (t_badFor : Nat → Int32) (v1 : Int32) (v2 : Int32) {r : Int32} (hf : fX1_hoursAlone fu t_ills t_effects t_badFor v1 v2 = some r) : rO l D G yX1_hoursAlone cX1_hoursAlone 3 (some .int) 3 112 [.ref q_t, .int v1, .int v2] [(q_t, .inr (1, [.int t_there, .int t_sat, .int t_hour, .ref q_t_ills, .ref q_t_roomOf, .ref q_t_effects, .ref q_t_badFor, .ref q_t_likes, .ref q_t_sights])), (q_t_ills, .inl (G 0, 18, .inl t_ills)), (q_t_effects, .inl (G 0, 12, .inl t_effects)), (q_t_badFor, .inl (G 0, 36, .inl t_badFor))] (some (.int r)) := by
  refine rO_of (by decide) (Nat.le_of_ble_eq_true rfl) ?_
  intro p e s m args below meth c Q hx hb hml hown hts hK hn hP RET ls hl
  have RT : ∀ (a0_ : Int32), some a0_ = some r → ∀ (pc : Nat) (ls : Array Slot) (ins : Instr), decode cX1_hoursAlone pc = .ok (ins, 1) → rk (some .int) (some (.int a0_)) ins → W p l e (kR 3 112) s m args below meth c s.heap [] 0 0 Q (F0 m pc ls [.int a0_]) := by
    intro a0_ hy; obtain rfl := sm1 hy
    exact RET
  have hown : s.vm.findClass RX1 = some m.cls := hown
  have hl : lv_has ls 3 [(0, .ref q_t), (1, .int v1), (2, .int v2)] := hl
  clear RET
  rw [fX1_hoursAlone] at hf
  refine lv_aload_n hx hb dX1_hoursAlone_0 rfl (lv_at hl 0 rfl) ?_
  refine lv_iload_n hx hb dX1_hoursAlone_1 rfl (lv_at hl 1 rfl) ?_
  obtain ⟨r1, h2, hf⟩ := bd1E hf
  refine kO_virt hx hb hml hown hts hK hn hP (kX1_illsOf l D G q_t q_t_ills q_t_roomOf q_t_effects q_t_badFor q_t_likes q_t_sights t_there t_sat t_hour t_ills v1 h2) cvX1_62 ⟨Nat.le_of_ble_eq_true rfl, Nat.le_of_ble_eq_true rfl⟩ [0, 1] rfl 0 rfl rfl rfl hl.1 rfl (Nat.le_of_ble_eq_true rfl) ⟨Nat.zero_le _, Nat.zero_le _⟩ dX1_hoursAlone_2 ?_
  refine lv_if_ne (tgt := 12) hx hb dX1_hoursAlone_5 (by decide) (fun c3 => ?_) (fun c3 => ?_)
  · have hf := ifn c3 hf
    refine lv_aload_n hx hb dX1_hoursAlone_12 rfl (lv_at hl 0 rfl) ?_
    refine lv_iload_n hx hb dX1_hoursAlone_13 rfl (lv_at hl 1 rfl) ?_
    refine lv_iload_n hx hb dX1_hoursAlone_14 rfl (lv_at hl 2 rfl) ?_
    refine lv_iconst (v := (0 : Int32)) hx hb dX1_hoursAlone_15 (by decide) ?_
    obtain ⟨r4, h5, hf⟩ := bd1E hf
    refine kO_virt hx hb hml hown hts hK hn hP (kX1_hoursToLoseAll l D G fu q_t q_t_ills q_t_roomOf q_t_effects q_t_badFor q_t_likes q_t_sights t_there t_sat t_hour t_ills t_effects t_badFor v1 v2 (0 : Int32) h5) cvX1_91 ⟨Nat.le_of_ble_eq_true rfl, Nat.le_of_ble_eq_true rfl⟩ [0, 1, 2, 3] rfl 0 rfl rfl rfl hl.1 rfl (Nat.le_of_ble_eq_true rfl) ⟨Nat.zero_le _, Nat.zero_le _⟩ dX1_hoursAlone_16 ?_
    exact RT _ hf _ _ _ dX1_hoursAlone_19 (rkI _)
  · have hf := ifp c3 hf
    refine lv_iconst (v := (0 : Int32)) hx hb dX1_hoursAlone_8 (by decide) ?_
    refine lv_goto (tgt := 19) hx hb dX1_hoursAlone_9 (by decide) ?_
    exact RT _ hf _ _ _ dX1_hoursAlone_19 (rkI _)
set_option maxHeartbeats 4000000 in
set_option maxRecDepth 100000 in
theorem kX1_withPieces (l : Launch) (D : va_G) (G : Nat → ClassId) (fu : Nat) (q_t q_t_ills q_t_roomOf q_t_effects q_t_badFor q_t_likes q_t_sights : Nat) (t_there : Int32) (t_sat : Int32) (t_hour : Int32) (t_roomOf : Nat → Int32) (v1 : Int32) {r : Int32} (hf : fX1_withPieces fu t_there t_roomOf v1 = some r) : rO l D G yX1_withPieces cX1_withPieces 4 (some .int) 1 60 [.ref q_t, .int v1] [(q_t, .inr (1, [.int t_there, .int t_sat, .int t_hour, .ref q_t_ills, .ref q_t_roomOf, .ref q_t_effects, .ref q_t_badFor, .ref q_t_likes, .ref q_t_sights])), (q_t_roomOf, .inl (G 0, 6, .inl t_roomOf))] (some (.int r)) := by
  refine rO_of (by decide) (Nat.le_of_ble_eq_true rfl) ?_
  intro p e s m args below meth c Q hx hb hml hown hts hK hn hP RET ls hl
  have RT : ∀ (a0_ : Int32), some a0_ = some r → ∀ (pc : Nat) (ls : Array Slot) (ins : Instr), decode cX1_withPieces pc = .ok (ins, 1) → rk (some .int) (some (.int a0_)) ins → W p l e (kR 1 60) s m args below meth c s.heap [] 0 0 Q (F0 m pc ls [.int a0_]) := by
    intro a0_ hy; obtain rfl := sm1 hy
    exact RET
  have hown : s.vm.findClass RX1 = some m.cls := hown
  have hl : lv_has ls 4 [(0, .ref q_t), (1, .int v1)] := hl
  clear RET
  rw [fX1_withPieces] at hf
  refine lv_iconst (v := (0 : Int32)) hx hb dX1_withPieces_0 (by decide) ?_
  refine lv_istore_n (lv' := [(2, .int (0 : Int32)), (0, .ref q_t), (1, .int v1)]) hx hb dX1_withPieces_1 rfl hl (by decide) rfl (fun ls hl => ?_)
  refine lv_iconst (v := (0 : Int32)) hx hb dX1_withPieces_2 (by decide) ?_
  refine lv_istore_n (lv' := [(3, .int (0 : Int32)), (2, .int (0 : Int32)), (0, .ref q_t), (1, .int v1)]) hx hb dX1_withPieces_3 rfl hl (by decide) rfl (fun ls hl => ?_)
  obtain ⟨u36, h40, hf⟩ := bd1E hf
  have E37 : ∀ (z69 : Int32), some z69 = some u36 → ∀ ls : Array Slot, lv_has ls 4 [(2, .int z69)] → W p l e (kR 1 60) s m args below meth c s.heap [] 0 0 Q (F0 m 44 ls []) := by
    intro z69 hy; obtain rfl := sm1 hy
    intro ls hl
    refine lv_iload_n hx hb dX1_withPieces_44 rfl (lv_at hl 0 rfl) ?_
    exact RT _ hf _ _ _ dX1_withPieces_45 (rkI _)
  have L38 : ∀ (k : Nat) (w34 : Int32) (w35 : Int32), fX1_withPieces_4 t_there t_roomOf v1 k w34 w35 = some u36 → ∀ ls : Array Slot, lv_has ls 4 [(0, .ref q_t), (1, .int v1), (2, .int w34), (3, .int w35)] → W p l e (kR 1 60) s m args below meth c s.heap [] 0 0 Q (F0 m 4 ls []) := by
    intro k; induction k with
    | zero => intro w34 w35 hf; exact nosome hf
    | succ k ih =>
      intro w34 w35 hf; rw [fX1_withPieces_4] at hf
      intro ls hl
      refine lv_iload_n hx hb dX1_withPieces_4 rfl (lv_at hl 3 rfl) ?_
      refine lv_bipush (v := (6 : Int32)) hx hb dX1_withPieces_5 (by decide) ?_
      refine lv_icmp_ge (tgt := 44) hx hb dX1_withPieces_7 (by decide) (fun c43 => ?_) (fun c43 => ?_)
      · have hf := ifp c43 hf
        exact E37 _ hf ls (lv_sub hl [2] rfl)
      · have hf := ifn c43 hf
        refine lv_aload_n hx hb dX1_withPieces_10 rfl (lv_at hl 0 rfl) ?_
        refine va_get (D := D) (ci := 1) (v := .int t_there) (C := RX1) (T := TX1) (N := 9) hx hb hts inX1 hown hK hP 0 rfl rfl 0 (by decide) (hts _ lfX1_34) (fun _ h9 => h9) rfl dX1_withPieces_11 ?_
        refine lv_iload_n hx hb dX1_withPieces_14 rfl (lv_at hl 3 rfl) ?_
        refine lv_ishr hx hb dX1_withPieces_15 ?_
        refine lv_iconst (v := (1 : Int32)) hx hb dX1_withPieces_16 (by decide) ?_
        refine lv_iand hx hb dX1_withPieces_17 ?_
        refine lv_iconst (v := (1 : Int32)) hx hb dX1_withPieces_18 (by decide) ?_
        obtain ⟨j54, h68, hf⟩ := bd1E hf
        have E57 : ∀ (z55 : Int32), some z55 = some j54 → ∀ ls : Array Slot, lv_has ls 4 [(0, .ref q_t), (1, .int v1), (2, .int z55), (3, .int w35)] → W p l e (kR 1 60) s m args below meth c s.heap [] 0 0 Q (F0 m 38 ls []) := by
          intro z55 hy; obtain rfl := sm1 hy
          intro ls hl
          obtain ⟨y56, ey56⟩ : ∃ y : Int32, y = w35 + (1 : Int32) := ⟨_, rfl⟩
          have hf := nmeU ey56 hf
          refine lv_iinc (v := y56) (lv' := [(3, .int y56), (0, .ref q_t), (1, .int v1), (2, .int z55)]) hx hb dX1_withPieces_38 hl (k := 3) rfl (by rw [ey56]; rfl) (by decide) rfl (fun ls hl => ?_)
          refine lv_goto (tgt := 4) hx hb dX1_withPieces_41 (by decide) ?_
          exact ih _ _ hf ls (lv_sub hl [1, 2, 3, 0] rfl)
        have hf := h68
        refine lv_icmp_ne (tgt := 38) hx hb dX1_withPieces_19 (by decide) (fun c58 => ?_) (fun c58 => ?_)
        · have hf := ifn c58 hf
          exact E57 _ hf ls (lv_sub hl [0, 1, 2, 3] rfl)
        · have hf := ifp c58 hf
          refine lv_aload_n hx hb dX1_withPieces_22 rfl (lv_at hl 0 rfl) ?_
          refine va_get (D := D) (ci := 1) (v := .ref q_t_roomOf) (C := RX1) (T := TX1) (N := 9) hx hb hts inX1 hown hK hP 0 rfl rfl 4 (by decide) (hts _ lfX1_15) (fun _ h9 => h9) rfl dX1_withPieces_23 ?_
          refine lv_iload_n hx hb dX1_withPieces_26 rfl (lv_at hl 3 rfl) ?_
          obtain ⟨x59, ex59, ix59, hf⟩ := ldIE hf
          refine k_iald hx hb hK hP 1 0 rfl rfl ix59 ex59 dX1_withPieces_27 ?_
          refine lv_iload_n hx hb dX1_withPieces_28 rfl (lv_at hl 1 rfl) ?_
          obtain ⟨j62, h67, hf⟩ := bd1E hf
          have E64 : ∀ (z63 : Int32), some z63 = some j62 → ∀ ls : Array Slot, lv_has ls 4 [(0, .ref q_t), (1, .int v1), (2, .int z63), (3, .int w35)] → W p l e (kR 1 60) s m args below meth c s.heap [] 0 0 Q (F0 m 38 ls []) := by
            intro z63 hy; obtain rfl := sm1 hy
            intro ls hl
            exact E57 _ hf ls (lv_sub hl [0, 1, 2, 3] rfl)
          have hf := h67
          refine lv_icmp_ne (tgt := 38) hx hb dX1_withPieces_29 (by decide) (fun c65 => ?_) (fun c65 => ?_)
          · have hf := ifn c65 hf
            exact E64 _ hf ls (lv_sub hl [0, 1, 2, 3] rfl)
          · have hf := ifp c65 hf
            refine lv_iload_n hx hb dX1_withPieces_32 rfl (lv_at hl 2 rfl) ?_
            refine lv_iconst (v := (1 : Int32)) hx hb dX1_withPieces_33 (by decide) ?_
            refine lv_iload_n hx hb dX1_withPieces_34 rfl (lv_at hl 3 rfl) ?_
            refine lv_ishl hx hb dX1_withPieces_35 ?_
            refine lv_ior hx hb dX1_withPieces_36 ?_
            refine lv_topi (fun y66 ey66 => ?_)
            have hf := nmeU ey66 hf
            refine lv_istore_n (lv' := [(2, .int y66), (0, .ref q_t), (1, .int v1), (3, .int w35)]) hx hb dX1_withPieces_37 rfl hl (by decide) rfl (fun ls hl => ?_)
            exact E64 _ hf ls (lv_sub hl [1, 2, 0, 3] rfl)
  exact L38 fu (0 : Int32) (0 : Int32) h40 ls (lv_sub hl [2, 3, 1, 0] rfl)
set_option maxHeartbeats 4000000 in
set_option maxRecDepth 100000 in
theorem kX1_hoursStaying (l : Launch) (D : va_G) (G : Nat → ClassId) (fu : Nat) (q_t q_t_ills q_t_roomOf q_t_effects q_t_badFor q_t_likes q_t_sights : Nat) (t_there : Int32) (t_sat : Int32) (t_hour : Int32) (t_ills : Nat → Int32) (t_roomOf : Nat → Int32) (t_effects : Nat → Int32) (t_badFor : Nat → Int32) (v1 : Int32) {r : Int32} (hf : fX1_hoursStaying fu t_there t_ills t_roomOf t_effects t_badFor v1 = some r) : rO l D G yX1_hoursStaying cX1_hoursStaying 3 (some .int) 3 112 [.ref q_t, .int v1] [(q_t, .inr (1, [.int t_there, .int t_sat, .int t_hour, .ref q_t_ills, .ref q_t_roomOf, .ref q_t_effects, .ref q_t_badFor, .ref q_t_likes, .ref q_t_sights])), (q_t_ills, .inl (G 0, 18, .inl t_ills)), (q_t_roomOf, .inl (G 0, 6, .inl t_roomOf)), (q_t_effects, .inl (G 0, 12, .inl t_effects)), (q_t_badFor, .inl (G 0, 36, .inl t_badFor))] (some (.int r)) := by
  refine rO_of (by decide) (Nat.le_of_ble_eq_true rfl) ?_
  intro p e s m args below meth c Q hx hb hml hown hts hK hn hP RET ls hl
  have RT : ∀ (a0_ : Int32), some a0_ = some r → ∀ (pc : Nat) (ls : Array Slot) (ins : Instr), decode cX1_hoursStaying pc = .ok (ins, 1) → rk (some .int) (some (.int a0_)) ins → W p l e (kR 3 112) s m args below meth c s.heap [] 0 0 Q (F0 m pc ls [.int a0_]) := by
    intro a0_ hy; obtain rfl := sm1 hy
    exact RET
  have hown : s.vm.findClass RX1 = some m.cls := hown
  have hl : lv_has ls 3 [(0, .ref q_t), (1, .int v1)] := hl
  clear RET
  rw [fX1_hoursStaying] at hf
  refine lv_aload_n hx hb dX1_hoursStaying_0 rfl (lv_at hl 0 rfl) ?_
  refine va_get (D := D) (ci := 1) (v := .ref q_t_roomOf) (C := RX1) (T := TX1) (N := 9) hx hb hts inX1 hown hK hP 0 rfl rfl 4 (by decide) (hts _ lfX1_15) (fun _ h9 => h9) rfl dX1_hoursStaying_1 ?_
  refine lv_iload_n hx hb dX1_hoursStaying_4 rfl (lv_at hl 1 rfl) ?_
  obtain ⟨x1, ex1, ix1, hf⟩ := ldIE hf
  refine k_iald hx hb hK hP 2 0 rfl rfl ix1 ex1 dX1_hoursStaying_5 ?_
  refine lv_istore_n (lv' := [(2, .int x1), (0, .ref q_t), (1, .int v1)]) hx hb dX1_hoursStaying_6 rfl hl (by decide) rfl (fun ls hl => ?_)
  refine lv_aload_n hx hb dX1_hoursStaying_7 rfl (lv_at hl 1 rfl) ?_
  refine lv_iload_n hx hb dX1_hoursStaying_8 rfl (lv_at hl 2 rfl) ?_
  obtain ⟨r2, h3, hf⟩ := bd1E hf
  refine kO_virt hx hb hml hown hts hK hn hP (kX1_illsOf l D G q_t q_t_ills q_t_roomOf q_t_effects q_t_badFor q_t_likes q_t_sights t_there t_sat t_hour t_ills v1 h3) cvX1_62 ⟨Nat.le_of_ble_eq_true rfl, Nat.le_of_ble_eq_true rfl⟩ [0, 1] rfl 0 rfl rfl rfl hl.1 rfl (Nat.le_of_ble_eq_true rfl) ⟨Nat.zero_le _, Nat.zero_le _⟩ dX1_hoursStaying_9 ?_
  refine lv_if_ne (tgt := 19) hx hb dX1_hoursStaying_12 (by decide) (fun c4 => ?_) (fun c4 => ?_)
  · have hf := ifn c4 hf
    refine lv_aload_n hx hb dX1_hoursStaying_19 rfl (lv_at hl 1 rfl) ?_
    refine lv_iload_n hx hb dX1_hoursStaying_20 rfl (lv_at hl 2 rfl) ?_
    refine lv_iload_n hx hb dX1_hoursStaying_21 rfl (lv_at hl 0 rfl) ?_
    refine lv_aload_n hx hb dX1_hoursStaying_22 rfl (lv_at hl 1 rfl) ?_
    refine lv_iload_n hx hb dX1_hoursStaying_23 rfl (lv_at hl 0 rfl) ?_
    obtain ⟨r5, h6, hf⟩ := bd1E hf
    refine kO_virt hx hb hml hown hts hK hn hP (kX1_withPieces l D G fu q_t q_t_ills q_t_roomOf q_t_effects q_t_badFor q_t_likes q_t_sights t_there t_sat t_hour t_roomOf x1 h6) cvX1_73 ⟨Nat.le_of_ble_eq_true rfl, Nat.le_of_ble_eq_true rfl⟩ [0, 2] rfl 0 rfl rfl rfl hl.1 rfl (Nat.le_of_ble_eq_true rfl) ⟨Nat.zero_le _, Nat.zero_le _⟩ dX1_hoursStaying_24 ?_
    obtain ⟨r7, h8, hf⟩ := bd1E hf
    refine kO_virt hx hb hml hown hts hK hn hP (kX1_hoursToLoseAll l D G fu q_t q_t_ills q_t_roomOf q_t_effects q_t_badFor q_t_likes q_t_sights t_there t_sat t_hour t_ills t_effects t_badFor v1 x1 r5 h8) cvX1_91 ⟨Nat.le_of_ble_eq_true rfl, Nat.le_of_ble_eq_true rfl⟩ [0, 1, 3, 4] rfl 0 rfl rfl rfl hl.1 rfl (Nat.le_of_ble_eq_true rfl) ⟨Nat.zero_le _, Nat.zero_le _⟩ dX1_hoursStaying_27 ?_
    exact RT _ hf _ _ _ dX1_hoursStaying_30 (rkI _)
  · have hf := ifp c4 hf
    refine lv_iconst (v := (0 : Int32)) hx hb dX1_hoursStaying_15 (by decide) ?_
    refine lv_goto (tgt := 30) hx hb dX1_hoursStaying_16 (by decide) ?_
    exact RT _ hf _ _ _ dX1_hoursStaying_30 (rkI _)
set_option maxHeartbeats 4000000 in
set_option maxRecDepth 100000 in
theorem kX1_isThere (l : Launch) (D : va_G) (G : Nat → ClassId) (q_t q_t_ills q_t_roomOf q_t_effects q_t_badFor q_t_likes q_t_sights : Nat) (t_there : Int32) (t_sat : Int32) (t_hour : Int32) (v1 : Int32) {r : Int32} (hf : fX1_isThere t_there v1 = some r) : rO l D G yX1_isThere cX1_isThere 2 (some .boolean) 1 60 [.ref q_t, .int v1] [(q_t, .inr (1, [.int t_there, .int t_sat, .int t_hour, .ref q_t_ills, .ref q_t_roomOf, .ref q_t_effects, .ref q_t_badFor, .ref q_t_likes, .ref q_t_sights]))] (some (.int r)) := by
  refine rO_of (by decide) (Nat.le_of_ble_eq_true rfl) ?_
  intro p e s m args below meth c Q hx hb hml hown hts hK hn hP RET ls hl
  have RT : ∀ (a0_ : Int32), some a0_ = some r → ∀ (pc : Nat) (ls : Array Slot) (ins : Instr), decode cX1_isThere pc = .ok (ins, 1) → rk (some .boolean) (some (.int a0_)) ins → W p l e (kR 1 60) s m args below meth c s.heap [] 0 0 Q (F0 m pc ls [.int a0_]) := by
    intro a0_ hy; obtain rfl := sm1 hy
    exact RET
  have hown : s.vm.findClass RX1 = some m.cls := hown
  have hl : lv_has ls 2 [(0, .ref q_t), (1, .int v1)] := hl
  clear RET
  rw [fX1_isThere] at hf
  refine lv_iload_n hx hb dX1_isThere_0 rfl (lv_at hl 1 rfl) ?_
  refine lv_if_lt (tgt := 26) hx hb dX1_isThere_1 (by decide) (fun c1 => ?_) (fun c1 => ?_)
  · have hf := ifp c1 hf
    refine lv_iconst (v := (0 : Int32)) hx hb dX1_isThere_26 (by decide) ?_
    exact RT _ hf _ _ _ dX1_isThere_27 (rkZ (Or.inl rfl))
  · have hf := ifn c1 hf
    refine lv_iload_n hx hb dX1_isThere_4 rfl (lv_at hl 1 rfl) ?_
    refine lv_bipush (v := (6 : Int32)) hx hb dX1_isThere_5 (by decide) ?_
    refine lv_icmp_ge (tgt := 26) hx hb dX1_isThere_7 (by decide) (fun c2 => ?_) (fun c2 => ?_)
    · have hf := ifp c2 hf
      refine lv_iconst (v := (0 : Int32)) hx hb dX1_isThere_26 (by decide) ?_
      exact RT _ hf _ _ _ dX1_isThere_27 (rkZ (Or.inl rfl))
    · have hf := ifn c2 hf
      refine lv_aload_n hx hb dX1_isThere_10 rfl (lv_at hl 0 rfl) ?_
      refine va_get (D := D) (ci := 1) (v := .int t_there) (C := RX1) (T := TX1) (N := 9) hx hb hts inX1 hown hK hP 0 rfl rfl 0 (by decide) (hts _ lfX1_34) (fun _ h9 => h9) rfl dX1_isThere_11 ?_
      refine lv_iload_n hx hb dX1_isThere_14 rfl (lv_at hl 1 rfl) ?_
      refine lv_ishr hx hb dX1_isThere_15 ?_
      refine lv_iconst (v := (1 : Int32)) hx hb dX1_isThere_16 (by decide) ?_
      refine lv_iand hx hb dX1_isThere_17 ?_
      refine lv_iconst (v := (1 : Int32)) hx hb dX1_isThere_18 (by decide) ?_
      refine lv_icmp_ne (tgt := 26) hx hb dX1_isThere_19 (by decide) (fun c3 => ?_) (fun c3 => ?_)
      · have hf := ifn c3 hf
        refine lv_iconst (v := (0 : Int32)) hx hb dX1_isThere_26 (by decide) ?_
        exact RT _ hf _ _ _ dX1_isThere_27 (rkZ (Or.inl rfl))
      · have hf := ifp c3 hf
        refine lv_iconst (v := (1 : Int32)) hx hb dX1_isThere_22 (by decide) ?_
        refine lv_goto (tgt := 27) hx hb dX1_isThere_23 (by decide) ?_
        exact RT _ hf _ _ _ dX1_isThere_27 (rkZ (Or.inr rfl))
