set_option maxHeartbeats 4000000 in
set_option maxRecDepth 100000 in
theorem kX1_wellPieces (l : Launch) (D : va_G) (G : Nat → ClassId) (fu : Nat) (q_t q_t_ills q_t_roomOf q_t_effects q_t_badFor q_t_likes q_t_sights : Nat) (t_there : Int32) (t_sat : Int32) (t_hour : Int32) (t_ills : Nat → Int32) {r : Int32} (hf : fX1_wellPieces fu t_there t_ills = some r) : rO l D G yX1_wellPieces cX1_wellPieces 3 (some .int) 3 103 [.ref q_t] [(q_t, .inr (1, [.int t_there, .int t_sat, .int t_hour, .ref q_t_ills, .ref q_t_roomOf, .ref q_t_effects, .ref q_t_badFor, .ref q_t_likes, .ref q_t_sights])), (q_t_ills, .inl (G 0, 18, .inl t_ills))] (some (.int r)) := by
  refine rO_of (by decide) (Nat.le_of_ble_eq_true rfl) ?_
  intro p e s m args below meth c Q hx hb hml hown hts hK hn hP RET ls hl
  have RT : ∀ (a0_ : Int32), some a0_ = some r → ∀ (pc : Nat) (ls : Array Slot) (ins : Instr), decode cX1_wellPieces pc = .ok (ins, 1) → rk (some .int) (some (.int a0_)) ins → W p l e (kR 3 103) s m args below meth c s.heap [] 0 0 Q (F0 m pc ls [.int a0_]) := by
    intro a0_ hy; obtain rfl := sm1 hy
    exact RET
  have hown : s.vm.findClass RX1 = some m.cls := hown
  have hl : lv_has ls 3 [(0, .ref q_t)] := hl
  clear RET
  rw [fX1_wellPieces] at hf
  refine lv_iconst (v := (0 : Int32)) hx hb dX1_wellPieces_0 (by decide) ?_
  refine lv_istore_n (lv' := [(1, .int (0 : Int32)), (0, .ref q_t)]) hx hb dX1_wellPieces_1 rfl hl (by decide) rfl (fun ls hl => ?_)
  refine lv_iconst (v := (0 : Int32)) hx hb dX1_wellPieces_2 (by decide) ?_
  refine lv_istore_n (lv' := [(2, .int (0 : Int32)), (1, .int (0 : Int32)), (0, .ref q_t)]) hx hb dX1_wellPieces_3 rfl hl (by decide) rfl (fun ls hl => ?_)
  obtain ⟨u39, h43, hf⟩ := bd1E hf
  have E40 : ∀ (z76 : Int32), some z76 = some u39 → ∀ ls : Array Slot, lv_has ls 3 [(1, .int z76)] → W p l e (kR 3 103) s m args below meth c s.heap [] 0 0 Q (F0 m 38 ls []) := by
    intro z76 hy; obtain rfl := sm1 hy
    intro ls hl
    refine lv_iload_n hx hb dX1_wellPieces_38 rfl (lv_at hl 0 rfl) ?_
    exact RT _ hf _ _ _ dX1_wellPieces_39 (rkI _)
  have L41 : ∀ (k : Nat) (w37 : Int32) (w38 : Int32), fX1_wellPieces_4 t_there t_ills k w37 w38 = some u39 → ∀ ls : Array Slot, lv_has ls 3 [(0, .ref q_t), (1, .int w37), (2, .int w38)] → W p l e (kR 3 103) s m args below meth c s.heap [] 0 0 Q (F0 m 4 ls []) := by
    intro k; induction k with
    | zero => intro w37 w38 hf; exact nosome hf
    | succ k ih =>
      intro w37 w38 hf; rw [fX1_wellPieces_4] at hf
      intro ls hl
      refine lv_iload_n hx hb dX1_wellPieces_4 rfl (lv_at hl 2 rfl) ?_
      refine lv_bipush (v := (6 : Int32)) hx hb dX1_wellPieces_5 (by decide) ?_
      refine lv_icmp_ge (tgt := 38) hx hb dX1_wellPieces_7 (by decide) (fun c46 => ?_) (fun c46 => ?_)
      · have hf := ifp c46 hf
        exact E40 _ hf ls (lv_sub hl [1] rfl)
      · have hf := ifn c46 hf
        refine lv_aload_n hx hb dX1_wellPieces_10 rfl (lv_at hl 0 rfl) ?_
        refine lv_iload_n hx hb dX1_wellPieces_11 rfl (lv_at hl 2 rfl) ?_
        obtain ⟨r47, h48, hf⟩ := bd1E hf
        refine kO_virt hx hb hml hown hts hK hn hP (kX1_isThere l D G q_t q_t_ills q_t_roomOf q_t_effects q_t_badFor q_t_likes q_t_sights t_there t_sat t_hour w38 h48) cvX1_58 ⟨Nat.le_of_ble_eq_true rfl, Nat.le_of_ble_eq_true rfl⟩ [0] rfl 0 rfl rfl rfl hl.1 rfl (Nat.le_of_ble_eq_true rfl) ⟨Nat.zero_le _, Nat.zero_le _⟩ dX1_wellPieces_12 ?_
        obtain ⟨j60, h75, hf⟩ := bd1E hf
        have E63 : ∀ (z61 : Int32), some z61 = some j60 → ∀ ls : Array Slot, lv_has ls 3 [(0, .ref q_t), (1, .int z61), (2, .int w38)] → W p l e (kR 3 103) s m args below meth c s.heap [] 0 0 Q (F0 m 32 ls []) := by
          intro z61 hy; obtain rfl := sm1 hy
          intro ls hl
          obtain ⟨y62, ey62⟩ : ∃ y : Int32, y = w38 + (1 : Int32) := ⟨_, rfl⟩
          have hf := nmeU ey62 hf
          refine lv_iinc (v := y62) (lv' := [(2, .int y62), (0, .ref q_t), (1, .int z61)]) hx hb dX1_wellPieces_32 hl (k := 2) rfl (by rw [ey62]; rfl) (by decide) rfl (fun ls hl => ?_)
          refine lv_goto (tgt := 4) hx hb dX1_wellPieces_35 (by decide) ?_
          exact ih _ _ hf ls (lv_sub hl [1, 2, 0] rfl)
        have hf := h75
        refine lv_if_eq (tgt := 32) hx hb dX1_wellPieces_15 (by decide) (fun c64 => ?_) (fun c64 => ?_)
        · have hf := ifp c64 hf
          exact E63 _ hf ls (lv_sub hl [0, 1, 2] rfl)
        · have hf := ifn c64 hf
          refine lv_aload_n hx hb dX1_wellPieces_18 rfl (lv_at hl 0 rfl) ?_
          refine lv_iload_n hx hb dX1_wellPieces_19 rfl (lv_at hl 2 rfl) ?_
          obtain ⟨r65, h66, hf⟩ := bd1E hf
          refine kO_virt hx hb hml hown hts hK hn hP (kX1_illsOf l D G q_t q_t_ills q_t_roomOf q_t_effects q_t_badFor q_t_likes q_t_sights t_there t_sat t_hour t_ills w38 h66) cvX1_62 ⟨Nat.le_of_ble_eq_true rfl, Nat.le_of_ble_eq_true rfl⟩ [0, 1] rfl 0 rfl rfl rfl hl.1 rfl (Nat.le_of_ble_eq_true rfl) ⟨Nat.zero_le _, Nat.zero_le _⟩ dX1_wellPieces_20 ?_
          obtain ⟨j69, h74, hf⟩ := bd1E hf
          have E71 : ∀ (z70 : Int32), some z70 = some j69 → ∀ ls : Array Slot, lv_has ls 3 [(0, .ref q_t), (1, .int z70), (2, .int w38)] → W p l e (kR 3 103) s m args below meth c s.heap [] 0 0 Q (F0 m 32 ls []) := by
            intro z70 hy; obtain rfl := sm1 hy
            intro ls hl
            exact E63 _ hf ls (lv_sub hl [0, 1, 2] rfl)
          have hf := h74
          refine lv_if_ne (tgt := 32) hx hb dX1_wellPieces_23 (by decide) (fun c72 => ?_) (fun c72 => ?_)
          · have hf := ifn c72 hf
            exact E71 _ hf ls (lv_sub hl [0, 1, 2] rfl)
          · have hf := ifp c72 hf
            refine lv_iload_n hx hb dX1_wellPieces_26 rfl (lv_at hl 1 rfl) ?_
            refine lv_iconst (v := (1 : Int32)) hx hb dX1_wellPieces_27 (by decide) ?_
            refine lv_iload_n hx hb dX1_wellPieces_28 rfl (lv_at hl 2 rfl) ?_
            refine lv_ishl hx hb dX1_wellPieces_29 ?_
            refine lv_ior hx hb dX1_wellPieces_30 ?_
            refine lv_topi (fun y73 ey73 => ?_)
            have hf := nmeU ey73 hf
            refine lv_istore_n (lv' := [(1, .int y73), (0, .ref q_t), (2, .int w38)]) hx hb dX1_wellPieces_31 rfl hl (by decide) rfl (fun ls hl => ?_)
            exact E71 _ hf ls (lv_sub hl [1, 0, 2] rfl)
  exact L41 fu (0 : Int32) (0 : Int32) h43 ls (lv_sub hl [2, 1, 0] rfl)
set_option maxHeartbeats 4000000 in
set_option maxRecDepth 100000 in
theorem kX2_aimOf (l : Launch) (D : va_G) (G : Nat → ClassId) (v0 : Int32) {r : Int32} (hf : fX2_aimOf v0 = some r) : rO l D G yX2_aimOf cX2_aimOf 1 (some .int) 1 60 [.int v0] [] (some (.int r)) := by
  refine rO_of (by decide) (Nat.le_of_ble_eq_true rfl) ?_
  intro p e s m args below meth c Q hx hb hml hown hts hK hn hP RET ls hl
  have RT : ∀ (a0_ : Int32), some a0_ = some r → ∀ (pc : Nat) (ls : Array Slot) (ins : Instr), decode cX2_aimOf pc = .ok (ins, 1) → rk (some .int) (some (.int a0_)) ins → W p l e (kR 1 60) s m args below meth c s.heap [] 0 0 Q (F0 m pc ls [.int a0_]) := by
    intro a0_ hy; obtain rfl := sm1 hy
    exact RET
  have hown : s.vm.findClass RX2 = some m.cls := hown
  have hl : lv_has ls 1 [(0, .int v0)] := hl
  clear RET
  rw [fX2_aimOf] at hf
  refine lv_iload_n hx hb dX2_aimOf_0 rfl (lv_at hl 0 rfl) ?_
  refine lv_bipush (v := (46 : Int32)) hx hb dX2_aimOf_1 (by decide) ?_
  refine lv_icmp_ne (tgt := 8) hx hb dX2_aimOf_3 (by decide) (fun c1 => ?_) (fun c1 => ?_)
  · have hf := ifn c1 hf
    refine lv_iload_n hx hb dX2_aimOf_8 rfl (lv_at hl 0 rfl) ?_
    refine lv_bipush (v := (33 : Int32)) hx hb dX2_aimOf_9 (by decide) ?_
    refine lv_icmp_ne (tgt := 18) hx hb dX2_aimOf_11 (by decide) (fun c2 => ?_) (fun c2 => ?_)
    · have hf := ifn c2 hf
      refine lv_iload_n hx hb dX2_aimOf_18 rfl (lv_at hl 0 rfl) ?_
      refine lv_bipush (v := (97 : Int32)) hx hb dX2_aimOf_19 (by decide) ?_
      refine lv_isub hx hb dX2_aimOf_21 ?_
      exact RT _ hf _ _ _ dX2_aimOf_22 (rkI _)
    · have hf := ifp c2 hf
      refine lv_iconst (v := (4 : Int32)) hx hb dX2_aimOf_14 (by decide) ?_
      refine lv_goto (tgt := 22) hx hb dX2_aimOf_15 (by decide) ?_
      exact RT _ hf _ _ _ dX2_aimOf_22 (rkI _)
  · have hf := ifp c1 hf
    refine lv_iconst (v := (5 : Int32)) hx hb dX2_aimOf_6 (by decide) ?_
    exact RT _ hf _ _ _ dX2_aimOf_7 (rkI _)
set_option maxHeartbeats 4000000 in
set_option maxRecDepth 100000 in
theorem kX7_isAmong (l : Launch) (D : va_G) (G : Nat → ClassId) (v0 : Int32) (v1 : Int32) {r : Int32} (hf : fX7_isAmong v0 v1 = some r) : rO l D G yX7_isAmong cX7_isAmong 2 (some .boolean) 1 60 [.int v0, .int v1] [] (some (.int r)) := by
  refine rO_of (by decide) (Nat.le_of_ble_eq_true rfl) ?_
  intro p e s m args below meth c Q hx hb hml hown hts hK hn hP RET ls hl
  have RT : ∀ (a0_ : Int32), some a0_ = some r → ∀ (pc : Nat) (ls : Array Slot) (ins : Instr), decode cX7_isAmong pc = .ok (ins, 1) → rk (some .boolean) (some (.int a0_)) ins → W p l e (kR 1 60) s m args below meth c s.heap [] 0 0 Q (F0 m pc ls [.int a0_]) := by
    intro a0_ hy; obtain rfl := sm1 hy
    exact RET
  have hown : s.vm.findClass RX7 = some m.cls := hown
  have hl : lv_has ls 2 [(0, .int v0), (1, .int v1)] := hl
  clear RET
  rw [fX7_isAmong] at hf
  refine lv_iload_n hx hb dX7_isAmong_0 rfl (lv_at hl 0 rfl) ?_
  refine lv_if_lt (tgt := 13) hx hb dX7_isAmong_1 (by decide) (fun c1 => ?_) (fun c1 => ?_)
  · have hf := ifp c1 hf
    refine lv_iconst (v := (0 : Int32)) hx hb dX7_isAmong_13 (by decide) ?_
    exact RT _ hf _ _ _ dX7_isAmong_14 (rkZ (Or.inl rfl))
  · have hf := ifn c1 hf
    refine lv_iload_n hx hb dX7_isAmong_4 rfl (lv_at hl 0 rfl) ?_
    refine lv_iload_n hx hb dX7_isAmong_5 rfl (lv_at hl 1 rfl) ?_
    refine lv_icmp_ge (tgt := 13) hx hb dX7_isAmong_6 (by decide) (fun c2 => ?_) (fun c2 => ?_)
    · have hf := ifp c2 hf
      refine lv_iconst (v := (0 : Int32)) hx hb dX7_isAmong_13 (by decide) ?_
      exact RT _ hf _ _ _ dX7_isAmong_14 (rkZ (Or.inl rfl))
    · have hf := ifn c2 hf
      refine lv_iconst (v := (1 : Int32)) hx hb dX7_isAmong_9 (by decide) ?_
      refine lv_goto (tgt := 14) hx hb dX7_isAmong_10 (by decide) ?_
      exact RT _ hf _ _ _ dX7_isAmong_14 (rkZ (Or.inr rfl))
set_option maxHeartbeats 4000000 in
set_option maxRecDepth 100000 in
theorem kX2_signAt (l : Launch) (D : va_G) (G : Nat → ClassId) (q_t q_t_signs : Nat) (t_length : Int32) (t_signs : Nat → Int32) (v1 : Int32) {r : Int32} (hf : fX2_signAt t_signs v1 = some r) : rO l D G yX2_signAt cX2_signAt 2 (some .int) 2 81 [.ref q_t, .int v1] [(q_t, .inr (2, [.int t_length, .ref q_t_signs])), (q_t_signs, .inl (G 0, 60, .inl t_signs))] (some (.int r)) := by
  refine rO_of (by decide) (Nat.le_of_ble_eq_true rfl) ?_
  intro p e s m args below meth c Q hx hb hml hown hts hK hn hP RET ls hl
  have RT : ∀ (a0_ : Int32), some a0_ = some r → ∀ (pc : Nat) (ls : Array Slot) (ins : Instr), decode cX2_signAt pc = .ok (ins, 1) → rk (some .int) (some (.int a0_)) ins → W p l e (kR 2 81) s m args below meth c s.heap [] 0 0 Q (F0 m pc ls [.int a0_]) := by
    intro a0_ hy; obtain rfl := sm1 hy
    exact RET
  have hown : s.vm.findClass RX2 = some m.cls := hown
  have hl : lv_has ls 2 [(0, .ref q_t), (1, .int v1)] := hl
  clear RET
  rw [fX2_signAt] at hf
  refine lv_iload_n hx hb dX2_signAt_0 rfl (lv_at hl 1 rfl) ?_
  refine lv_bipush (v := (60 : Int32)) hx hb dX2_signAt_1 (by decide) ?_
  obtain ⟨r1, h2, hf⟩ := bd1E hf
  refine kO_nest hx hb hml hown hts hK hn hP (kX7_isAmong l D G v1 (60 : Int32) h2) cnX2_23 ⟨Nat.le_of_ble_eq_true rfl, Nat.le_of_ble_eq_true rfl⟩ [] rfl rfl hl.1 rfl (Nat.le_of_ble_eq_true rfl) ⟨Nat.zero_le _, Nat.zero_le _⟩ dX2_signAt_3 ?_
  refine lv_if_eq (tgt := 18) hx hb dX2_signAt_6 (by decide) (fun c3 => ?_) (fun c3 => ?_)
  · have hf := ifp c3 hf
    refine lv_iconst (v := (0 : Int32)) hx hb dX2_signAt_18 (by decide) ?_
    exact RT _ hf _ _ _ dX2_signAt_19 (rkI _)
  · have hf := ifn c3 hf
    refine lv_aload_n hx hb dX2_signAt_9 rfl (lv_at hl 0 rfl) ?_
    refine va_get (D := D) (ci := 2) (v := .ref q_t_signs) (C := RX2) (T := TX2) (N := 2) hx hb hts inX2 hown hK hP 0 rfl rfl 1 (by decide) (hts _ lfX2_11) (fun _ h9 => h9) rfl dX2_signAt_10 ?_
    refine lv_iload_n hx hb dX2_signAt_13 rfl (lv_at hl 1 rfl) ?_
    obtain ⟨x4, ex4, ix4, hf⟩ := ldIE hf
    refine k_iald hx hb hK hP 1 0 rfl rfl ix4 ex4 dX2_signAt_14 ?_
    refine lv_goto (tgt := 19) hx hb dX2_signAt_15 (by decide) ?_
    exact RT _ hf _ _ _ dX2_signAt_19 (rkI _)
set_option maxHeartbeats 4000000 in
set_option maxRecDepth 100000 in
theorem kX2_isAimOfPiece (l : Launch) (D : va_G) (G : Nat → ClassId) (v0 : Int32) {r : Int32} (hf : fX2_isAimOfPiece v0 = some r) : rO l D G yX2_isAimOfPiece cX2_isAimOfPiece 1 (some .boolean) 1 60 [.int v0] [] (some (.int r)) := by
  refine rO_of (by decide) (Nat.le_of_ble_eq_true rfl) ?_
  intro p e s m args below meth c Q hx hb hml hown hts hK hn hP RET ls hl
  have RT : ∀ (a0_ : Int32), some a0_ = some r → ∀ (pc : Nat) (ls : Array Slot) (ins : Instr), decode cX2_isAimOfPiece pc = .ok (ins, 1) → rk (some .boolean) (some (.int a0_)) ins → W p l e (kR 1 60) s m args below meth c s.heap [] 0 0 Q (F0 m pc ls [.int a0_]) := by
    intro a0_ hy; obtain rfl := sm1 hy
    exact RET
  have hown : s.vm.findClass RX2 = some m.cls := hown
  have hl : lv_has ls 1 [(0, .int v0)] := hl
  clear RET
  rw [fX2_isAimOfPiece] at hf
  refine lv_iload_n hx hb dX2_isAimOfPiece_0 rfl (lv_at hl 0 rfl) ?_
  refine lv_bipush (v := (33 : Int32)) hx hb dX2_isAimOfPiece_1 (by decide) ?_
  refine lv_icmp_eq (tgt := 18) hx hb dX2_isAimOfPiece_3 (by decide) (fun c1 => ?_) (fun c1 => ?_)
  · have hf := ifp c1 hf
    refine lv_iconst (v := (1 : Int32)) hx hb dX2_isAimOfPiece_18 (by decide) ?_
    refine lv_goto (tgt := 23) hx hb dX2_isAimOfPiece_19 (by decide) ?_
    exact RT _ hf _ _ _ dX2_isAimOfPiece_23 (rkZ (Or.inr rfl))
  · have hf := ifn c1 hf
    refine lv_iload_n hx hb dX2_isAimOfPiece_6 rfl (lv_at hl 0 rfl) ?_
    refine lv_bipush (v := (97 : Int32)) hx hb dX2_isAimOfPiece_7 (by decide) ?_
    refine lv_icmp_lt (tgt := 22) hx hb dX2_isAimOfPiece_9 (by decide) (fun c2 => ?_) (fun c2 => ?_)
    · have hf := ifp c2 hf
      refine lv_iconst (v := (0 : Int32)) hx hb dX2_isAimOfPiece_22 (by decide) ?_
      exact RT _ hf _ _ _ dX2_isAimOfPiece_23 (rkZ (Or.inl rfl))
    · have hf := ifn c2 hf
      refine lv_iload_n hx hb dX2_isAimOfPiece_12 rfl (lv_at hl 0 rfl) ?_
      refine lv_bipush (v := (101 : Int32)) hx hb dX2_isAimOfPiece_13 (by decide) ?_
      refine lv_icmp_ge (tgt := 22) hx hb dX2_isAimOfPiece_15 (by decide) (fun c3 => ?_) (fun c3 => ?_)
      · have hf := ifp c3 hf
        refine lv_iconst (v := (0 : Int32)) hx hb dX2_isAimOfPiece_22 (by decide) ?_
        exact RT _ hf _ _ _ dX2_isAimOfPiece_23 (rkZ (Or.inl rfl))
      · have hf := ifn c3 hf
        refine lv_iconst (v := (1 : Int32)) hx hb dX2_isAimOfPiece_18 (by decide) ?_
        refine lv_goto (tgt := 23) hx hb dX2_isAimOfPiece_19 (by decide) ?_
        exact RT _ hf _ _ _ dX2_isAimOfPiece_23 (rkZ (Or.inr rfl))
set_option maxHeartbeats 4000000 in
set_option maxRecDepth 100000 in
theorem kX2_isPiece (l : Launch) (D : va_G) (G : Nat → ClassId) (v0 : Int32) {r : Int32} (hf : fX2_isPiece v0 = some r) : rO l D G yX2_isPiece cX2_isPiece 1 (some .boolean) 1 60 [.int v0] [] (some (.int r)) := by
  refine rO_of (by decide) (Nat.le_of_ble_eq_true rfl) ?_
  intro p e s m args below meth c Q hx hb hml hown hts hK hn hP RET ls hl
  have RT : ∀ (a0_ : Int32), some a0_ = some r → ∀ (pc : Nat) (ls : Array Slot) (ins : Instr), decode cX2_isPiece pc = .ok (ins, 1) → rk (some .boolean) (some (.int a0_)) ins → W p l e (kR 1 60) s m args below meth c s.heap [] 0 0 Q (F0 m pc ls [.int a0_]) := by
    intro a0_ hy; obtain rfl := sm1 hy
    exact RET
  have hown : s.vm.findClass RX2 = some m.cls := hown
  have hl : lv_has ls 1 [(0, .int v0)] := hl
  clear RET
  rw [fX2_isPiece] at hf
  refine lv_iload_n hx hb dX2_isPiece_0 rfl (lv_at hl 0 rfl) ?_
  refine lv_bipush (v := (65 : Int32)) hx hb dX2_isPiece_1 (by decide) ?_
  refine lv_icmp_lt (tgt := 16) hx hb dX2_isPiece_3 (by decide) (fun c1 => ?_) (fun c1 => ?_)
  · have hf := ifp c1 hf
    refine lv_iconst (v := (0 : Int32)) hx hb dX2_isPiece_16 (by decide) ?_
    exact RT _ hf _ _ _ dX2_isPiece_17 (rkZ (Or.inl rfl))
  · have hf := ifn c1 hf
    refine lv_iload_n hx hb dX2_isPiece_6 rfl (lv_at hl 0 rfl) ?_
    refine lv_bipush (v := (71 : Int32)) hx hb dX2_isPiece_7 (by decide) ?_
    refine lv_icmp_ge (tgt := 16) hx hb dX2_isPiece_9 (by decide) (fun c2 => ?_) (fun c2 => ?_)
    · have hf := ifp c2 hf
      refine lv_iconst (v := (0 : Int32)) hx hb dX2_isPiece_16 (by decide) ?_
      exact RT _ hf _ _ _ dX2_isPiece_17 (rkZ (Or.inl rfl))
    · have hf := ifn c2 hf
      refine lv_iconst (v := (1 : Int32)) hx hb dX2_isPiece_12 (by decide) ?_
      refine lv_goto (tgt := 17) hx hb dX2_isPiece_13 (by decide) ?_
      exact RT _ hf _ _ _ dX2_isPiece_17 (rkZ (Or.inr rfl))
set_option maxHeartbeats 4000000 in
set_option maxRecDepth 100000 in
theorem kX2_firstFault (l : Launch) (D : va_G) (G : Nat → ClassId) (fu : Nat) (q_t q_t_signs : Nat) (t_length : Int32) (t_signs : Nat → Int32) {r : Int32} (hf : fX2_firstFault fu t_length t_signs = some r) : rO l D G yX2_firstFault cX2_firstFault 4 (some .int) 3 102 [.ref q_t] [(q_t, .inr (2, [.int t_length, .ref q_t_signs])), (q_t_signs, .inl (G 0, 60, .inl t_signs))] (some (.int r)) := by
  refine rO_of (by decide) (Nat.le_of_ble_eq_true rfl) ?_
  intro p e s m args below meth c Q hx hb hml hown hts hK hn hP RET ls hl
  have RT : ∀ (a0_ : Int32), some a0_ = some r → ∀ (pc : Nat) (ls : Array Slot) (ins : Instr), decode cX2_firstFault pc = .ok (ins, 1) → rk (some .int) (some (.int a0_)) ins → W p l e (kR 3 102) s m args below meth c s.heap [] 0 0 Q (F0 m pc ls [.int a0_]) := by
    intro a0_ hy; obtain rfl := sm1 hy
    exact RET
  have hown : s.vm.findClass RX2 = some m.cls := hown
  have hl : lv_has ls 4 [(0, .ref q_t)] := hl
  clear RET
  rw [fX2_firstFault] at hf
  refine lv_iconst (v := (0 : Int32)) hx hb dX2_firstFault_0 (by decide) ?_
  refine lv_istore_n (lv' := [(1, .int (0 : Int32)), (0, .ref q_t)]) hx hb dX2_firstFault_1 rfl hl (by decide) rfl (fun ls hl => ?_)
  refine lv_iconst (v := (0 : Int32)) hx hb dX2_firstFault_2 (by decide) ?_
  refine lv_istore_n (lv' := [(2, .int (0 : Int32)), (1, .int (0 : Int32)), (0, .ref q_t)]) hx hb dX2_firstFault_3 rfl hl (by decide) rfl (fun ls hl => ?_)
  obtain ⟨z30, h31, hr32, hc33⟩ := br1E hf
  have E28 : ∀ (z54 : Int32), some (Sum.inr z54) = some z30 → ∀ ls : Array Slot, lv_has ls 4 [(0, .ref q_t), (1, .int z54)] → W p l e (kR 3 102) s m args below meth c s.heap [] 0 0 Q (F0 m 58 ls []) := by
    intro z54 hy; have hf := hc33 z54 hy
    intro ls hl
    refine lv_iload_n hx hb dX2_firstFault_58 rfl (lv_at hl 1 rfl) ?_
    refine lv_if_eq (tgt := 69) hx hb dX2_firstFault_59 (by decide) (fun c55 => ?_) (fun c55 => ?_)
    · have hf := ifp c55 hf
      refine lv_bipush (v := (-6 : Int32)) hx hb dX2_firstFault_69 (by decide) ?_
      exact RT _ hf _ _ _ dX2_firstFault_71 (rkI _)
    · have hf := ifn c55 hf
      refine lv_aload_n hx hb dX2_firstFault_62 rfl (lv_at hl 0 rfl) ?_
      refine va_get (D := D) (ci := 2) (v := .int t_length) (C := RX2) (T := TX2) (N := 2) hx hb hts inX2 hown hK hP 0 rfl rfl 0 (by decide) (hts _ lfX2_15) (fun _ h9 => h9) rfl dX2_firstFault_63 ?_
      refine lv_goto (tgt := 71) hx hb dX2_firstFault_66 (by decide) ?_
      exact RT _ hf _ _ _ dX2_firstFault_71 (rkI _)
  have L29 : ∀ (k : Nat) (w25 : Int32) (w26 : Int32), fX2_firstFault_4 t_length t_signs k w25 w26 = some z30 → ∀ ls : Array Slot, lv_has ls 4 [(0, .ref q_t), (1, .int w25), (2, .int w26)] → W p l e (kR 3 102) s m args below meth c s.heap [] 0 0 Q (F0 m 4 ls []) := by
    intro k; induction k with
    | zero => intro w25 w26 hf; exact nosome hf
    | succ k ih =>
      intro w25 w26 hf; rw [fX2_firstFault_4] at hf
      intro ls hl
      refine lv_iload_n hx hb dX2_firstFault_4 rfl (lv_at hl 2 rfl) ?_
      refine lv_aload_n hx hb dX2_firstFault_5 rfl (lv_at hl 0 rfl) ?_
      refine va_get (D := D) (ci := 2) (v := .int t_length) (C := RX2) (T := TX2) (N := 2) hx hb hts inX2 hown hK hP 0 rfl rfl 0 (by decide) (hts _ lfX2_15) (fun _ h9 => h9) rfl dX2_firstFault_6 ?_
      refine lv_icmp_ge (tgt := 58) hx hb dX2_firstFault_9 (by decide) (fun c34 => ?_) (fun c34 => ?_)
      · have hf := ifp c34 hf
        exact E28 _ hf ls (lv_sub hl [0, 1] rfl)
      · have hf := ifn c34 hf
        refine lv_aload_n hx hb dX2_firstFault_12 rfl (lv_at hl 0 rfl) ?_
        refine lv_iload_n hx hb dX2_firstFault_13 rfl (lv_at hl 2 rfl) ?_
        obtain ⟨r35, h36, hf⟩ := bd1E hf
        refine kO_virt hx hb hml hown hts hK hn hP (kX2_signAt l D G q_t q_t_signs t_length t_signs w26 h36) cvX2_27 ⟨Nat.le_of_ble_eq_true rfl, Nat.le_of_ble_eq_true rfl⟩ [0, 1] rfl 0 rfl rfl rfl hl.1 rfl (Nat.le_of_ble_eq_true rfl) ⟨Nat.zero_le _, Nat.zero_le _⟩ dX2_firstFault_14 ?_
        refine lv_istore_n (lv' := [(3, .int r35), (0, .ref q_t), (1, .int w25), (2, .int w26)]) hx hb dX2_firstFault_17 rfl hl (by decide) rfl (fun ls hl => ?_)
        refine lv_iload_n hx hb dX2_firstFault_18 rfl (lv_at hl 2 rfl) ?_
        refine lv_if_eq (tgt := 32) hx hb dX2_firstFault_19 (by decide) (fun c37 => ?_) (fun c37 => ?_)
        · have hf := ifp c37 hf
          refine lv_iload_n hx hb dX2_firstFault_32 rfl (lv_at hl 0 rfl) ?_
          refine lv_bipush (v := (46 : Int32)) hx hb dX2_firstFault_33 (by decide) ?_
          refine lv_icmp_eq (tgt := 47) hx hb dX2_firstFault_35 (by decide) (fun c38 => ?_) (fun c38 => ?_)
          · have hf := ifp c38 hf
            refine lv_iload_n hx hb dX2_firstFault_47 rfl (lv_at hl 0 rfl) ?_
            obtain ⟨r39, h40, hf⟩ := bd1E hf
            refine kO_stat hx hb hml hown hts hK hn hP (kX2_isPiece l D G r35 h40) csX2_35 ⟨Nat.le_of_ble_eq_true rfl, Nat.le_of_ble_eq_true rfl⟩ [] rfl rfl hl.1 rfl (Nat.le_of_ble_eq_true rfl) ⟨Nat.zero_le _, Nat.zero_le _⟩ dX2_firstFault_48 ?_
            refine lv_istore_n (lv' := [(1, .int r39), (3, .int r35), (0, .ref q_t), (2, .int w26)]) hx hb dX2_firstFault_51 rfl hl (by decide) rfl (fun ls hl => ?_)
            obtain ⟨y41, ey41⟩ : ∃ y : Int32, y = w26 + (1 : Int32) := ⟨_, rfl⟩
            have hf := nmeU ey41 hf
            refine lv_iinc (v := y41) (lv' := [(2, .int y41), (1, .int r39), (3, .int r35), (0, .ref q_t)]) hx hb dX2_firstFault_52 hl (k := 3) rfl (by rw [ey41]; rfl) (by decide) rfl (fun ls hl => ?_)
            refine lv_goto (tgt := 4) hx hb dX2_firstFault_55 (by decide) ?_
            exact ih _ _ hf ls (lv_sub hl [3, 1, 0] rfl)
          · have hf := ifn c38 hf
            refine lv_iload_n hx hb dX2_firstFault_38 rfl (lv_at hl 0 rfl) ?_
            obtain ⟨r42, h43, hf⟩ := bd1E hf
            refine kO_stat hx hb hml hown hts hK hn hP (kX2_isPiece l D G r35 h43) csX2_35 ⟨Nat.le_of_ble_eq_true rfl, Nat.le_of_ble_eq_true rfl⟩ [] rfl rfl hl.1 rfl (Nat.le_of_ble_eq_true rfl) ⟨Nat.zero_le _, Nat.zero_le _⟩ dX2_firstFault_39 ?_
            refine lv_if_ne (tgt := 47) hx hb dX2_firstFault_42 (by decide) (fun c44 => ?_) (fun c44 => ?_)
            · have hf := ifn c44 hf
              refine lv_iload_n hx hb dX2_firstFault_47 rfl (lv_at hl 0 rfl) ?_
              obtain ⟨r45, h46, hf⟩ := bd1E hf
              refine kO_stat hx hb hml hown hts hK hn hP (kX2_isPiece l D G r35 h46) csX2_35 ⟨Nat.le_of_ble_eq_true rfl, Nat.le_of_ble_eq_true rfl⟩ [] rfl rfl hl.1 rfl (Nat.le_of_ble_eq_true rfl) ⟨Nat.zero_le _, Nat.zero_le _⟩ dX2_firstFault_48 ?_
              refine lv_istore_n (lv' := [(1, .int r45), (3, .int r35), (0, .ref q_t), (2, .int w26)]) hx hb dX2_firstFault_51 rfl hl (by decide) rfl (fun ls hl => ?_)
              obtain ⟨y47, ey47⟩ : ∃ y : Int32, y = w26 + (1 : Int32) := ⟨_, rfl⟩
              have hf := nmeU ey47 hf
              refine lv_iinc (v := y47) (lv' := [(2, .int y47), (1, .int r45), (3, .int r35), (0, .ref q_t)]) hx hb dX2_firstFault_52 hl (k := 3) rfl (by rw [ey47]; rfl) (by decide) rfl (fun ls hl => ?_)
              refine lv_goto (tgt := 4) hx hb dX2_firstFault_55 (by decide) ?_
              exact ih _ _ hf ls (lv_sub hl [3, 1, 0] rfl)
            · have hf := ifp c44 hf
              refine lv_iload_n hx hb dX2_firstFault_45 rfl (lv_at hl 3 rfl) ?_
              have hf := hr32 _ hf
              exact RT _ hf _ _ _ dX2_firstFault_46 (rkI _)
        · have hf := ifn c37 hf
          refine lv_iload_n hx hb dX2_firstFault_22 rfl (lv_at hl 0 rfl) ?_
          obtain ⟨r48, h49, hf⟩ := bd1E hf
          refine kO_stat hx hb hml hown hts hK hn hP (kX2_isAimOfPiece l D G r35 h49) csX2_31 ⟨Nat.le_of_ble_eq_true rfl, Nat.le_of_ble_eq_true rfl⟩ [] rfl rfl hl.1 rfl (Nat.le_of_ble_eq_true rfl) ⟨Nat.zero_le _, Nat.zero_le _⟩ dX2_firstFault_23 ?_
          refine lv_if_eq (tgt := 45) hx hb dX2_firstFault_26 (by decide) (fun c50 => ?_) (fun c50 => ?_)
          · have hf := ifp c50 hf
            refine lv_iload_n hx hb dX2_firstFault_45 rfl (lv_at hl 3 rfl) ?_
            have hf := hr32 _ hf
            exact RT _ hf _ _ _ dX2_firstFault_46 (rkI _)
          · have hf := ifn c50 hf
            refine lv_goto (tgt := 47) hx hb dX2_firstFault_29 (by decide) ?_
            refine lv_iload_n hx hb dX2_firstFault_47 rfl (lv_at hl 0 rfl) ?_
            obtain ⟨r51, h52, hf⟩ := bd1E hf
            refine kO_stat hx hb hml hown hts hK hn hP (kX2_isPiece l D G r35 h52) csX2_35 ⟨Nat.le_of_ble_eq_true rfl, Nat.le_of_ble_eq_true rfl⟩ [] rfl rfl hl.1 rfl (Nat.le_of_ble_eq_true rfl) ⟨Nat.zero_le _, Nat.zero_le _⟩ dX2_firstFault_48 ?_
            refine lv_istore_n (lv' := [(1, .int r51), (3, .int r35), (0, .ref q_t), (2, .int w26)]) hx hb dX2_firstFault_51 rfl hl (by decide) rfl (fun ls hl => ?_)
            obtain ⟨y53, ey53⟩ : ∃ y : Int32, y = w26 + (1 : Int32) := ⟨_, rfl⟩
            have hf := nmeU ey53 hf
            refine lv_iinc (v := y53) (lv' := [(2, .int y53), (1, .int r51), (3, .int r35), (0, .ref q_t)]) hx hb dX2_firstFault_52 hl (k := 3) rfl (by rw [ey53]; rfl) (by decide) rfl (fun ls hl => ?_)
            refine lv_goto (tgt := 4) hx hb dX2_firstFault_55 (by decide) ?_
            exact ih _ _ hf ls (lv_sub hl [3, 1, 0] rfl)
  exact L29 fu (0 : Int32) (0 : Int32) h31 ls (lv_sub hl [2, 1, 0] rfl)
set_option maxHeartbeats 4000000 in
set_option maxRecDepth 100000 in
theorem kX2_isFull (l : Launch) (D : va_G) (G : Nat → ClassId) (q_t q_t_signs : Nat) (t_length : Int32) {r : Int32} (hf : fX2_isFull t_length = some r) : rO l D G yX2_isFull cX2_isFull 1 (some .boolean) 1 60 [.ref q_t] [(q_t, .inr (2, [.int t_length, .ref q_t_signs]))] (some (.int r)) := by
  refine rO_of (by decide) (Nat.le_of_ble_eq_true rfl) ?_
  intro p e s m args below meth c Q hx hb hml hown hts hK hn hP RET ls hl
  have RT : ∀ (a0_ : Int32), some a0_ = some r → ∀ (pc : Nat) (ls : Array Slot) (ins : Instr), decode cX2_isFull pc = .ok (ins, 1) → rk (some .boolean) (some (.int a0_)) ins → W p l e (kR 1 60) s m args below meth c s.heap [] 0 0 Q (F0 m pc ls [.int a0_]) := by
    intro a0_ hy; obtain rfl := sm1 hy
    exact RET
  have hown : s.vm.findClass RX2 = some m.cls := hown
  have hl : lv_has ls 1 [(0, .ref q_t)] := hl
  clear RET
  rw [fX2_isFull] at hf
  refine lv_aload_n hx hb dX2_isFull_0 rfl (lv_at hl 0 rfl) ?_
  refine va_get (D := D) (ci := 2) (v := .int t_length) (C := RX2) (T := TX2) (N := 2) hx hb hts inX2 hown hK hP 0 rfl rfl 0 (by decide) (hts _ lfX2_15) (fun _ h9 => h9) rfl dX2_isFull_1 ?_
  refine lv_bipush (v := (60 : Int32)) hx hb dX2_isFull_4 (by decide) ?_
  refine lv_icmp_lt (tgt := 13) hx hb dX2_isFull_6 (by decide) (fun c1 => ?_) (fun c1 => ?_)
  · have hf := ifp c1 hf
    refine lv_iconst (v := (0 : Int32)) hx hb dX2_isFull_13 (by decide) ?_
    exact RT _ hf _ _ _ dX2_isFull_14 (rkZ (Or.inl rfl))
  · have hf := ifn c1 hf
    refine lv_iconst (v := (1 : Int32)) hx hb dX2_isFull_9 (by decide) ?_
    refine lv_goto (tgt := 14) hx hb dX2_isFull_10 (by decide) ?_
    exact RT _ hf _ _ _ dX2_isFull_14 (rkZ (Or.inr rfl))
set_option maxHeartbeats 4000000 in
set_option maxRecDepth 100000 in
theorem kX2_write (l : Launch) (D : va_G) (G : Nat → ClassId) (q_t q_t_signs : Nat) (t_length : Int32) (t_signs : Nat → Int32) (v1 : Int32) {o_t_length : Int32} {o_t_signs : Nat → Int32} (hf : fX2_write t_length t_signs v1 = some (o_t_length, o_t_signs)) : rW l D G yX2_write cX2_write 2 none 2 80 [.ref q_t, .int v1] [(q_t, .inr (2, [.int t_length, .ref q_t_signs])), (q_t_signs, .inl (G 0, 60, .inl t_signs))] [(q_t, .inr (2, [.int o_t_length, .ref q_t_signs])), (q_t_signs, .inl (G 0, 60, .inl o_t_signs))] none := by
  refine rW_of (by decide) (Nat.le_of_ble_eq_true rfl) ?_
  intro p e s m args below meth c Q A hx hb hml hown hts hK hn hA RET H locs hP hD hS ls hl
  have RT : ∀ (a0_ : Int32) (a1_ : Nat → Int32), some (a0_, a1_) = some (o_t_length, o_t_signs) → ∀ (pc : Nat) (ls : Array Slot) (ins : Instr) (H : Heap) (locs : List Loc), decode cX2_write pc = .ok (ins, 1) → rk none none ins → va_P D vwCl [(q_t, .inr (2, [.int a0_, .ref q_t_signs])), (q_t_signs, .inl (G 0, 60, .inl a1_))] H → va_D A [(q_t, .inr (2, [.int a0_, .ref q_t_signs])), (q_t_signs, .inl (G 0, 60, .inl a1_))] → va_S A s.heap H locs → W p l e (kR 2 80) s m args below meth c H locs 0 0 Q (F0 m pc ls []) := by
    intro a0_ a1_ hy; obtain ⟨rfl, rfl⟩ := sm2 hy
    exact RET
  have hown : s.vm.findClass RX2 = some m.cls := hown
  have hl : lv_has ls 2 [(0, .ref q_t), (1, .int v1)] := hl
  clear RET
  rw [fX2_write] at hf
  refine lv_aload_n hx hb dX2_write_0 rfl (lv_at hl 0 rfl) ?_
  obtain ⟨r1, h2, hf⟩ := bd1E hf
  refine kO_virt hx hb hml hown hts hK hn hP (kX2_isFull l D G q_t q_t_signs t_length h2) cvX2_19 ⟨Nat.le_of_ble_eq_true rfl, Nat.le_of_ble_eq_true rfl⟩ [0] rfl 0 rfl rfl rfl hl.1 rfl (Nat.le_of_ble_eq_true rfl) ⟨Nat.zero_le _, Nat.zero_le _⟩ dX2_write_1 ?_
  refine lv_if_eq (tgt := 8) hx hb dX2_write_4 (by decide) (fun c3 => ?_) (fun c3 => ?_)
  · have hf := ifp c3 hf
    refine lv_aload_n hx hb dX2_write_8 rfl (lv_at hl 0 rfl) ?_
    refine va_get (D := D) (ci := 2) (v := .ref q_t_signs) (C := RX2) (T := TX2) (N := 2) hx hb hts inX2 hown hK hP 0 rfl rfl 1 (by decide) (hts _ lfX2_11) (fun _ h9 => h9) rfl dX2_write_9 ?_
    refine lv_aload_n hx hb dX2_write_12 rfl (lv_at hl 0 rfl) ?_
    refine va_get (D := D) (ci := 2) (v := .int t_length) (C := RX2) (T := TX2) (N := 2) hx hb hts inX2 hown hK hP 0 rfl rfl 0 (by decide) (hts _ lfX2_15) (fun _ h9 => h9) rfl dX2_write_13 ?_
    refine lv_iload_n hx hb dX2_write_16 rfl (lv_at hl 1 rfl) ?_
    obtain ⟨g4, eg4, ig4, hf⟩ := stIE hf
    refine k_iast hx hb hK hP hD hS 1 0 rfl rfl ig4 eg4 dX2_write_17 (fun H locs hP hD hS => ?_)
    have hP : va_P D vwCl [(q_t, .inr (2, [.int t_length, .ref q_t_signs])), (q_t_signs, .inl (G 0, 60, .inl g4))] H := hP
    have hD : va_D A [(q_t, .inr (2, [.int t_length, .ref q_t_signs])), (q_t_signs, .inl (G 0, 60, .inl g4))] := hD
    refine lv_aload_n hx hb dX2_write_18 rfl (lv_at hl 0 rfl) ?_
    refine lv_dup hx hb dX2_write_19 rfl ?_
    refine va_get (D := D) (ci := 2) (v := .int t_length) (C := RX2) (T := TX2) (N := 2) hx hb hts inX2 hown hK hP 0 rfl rfl 0 (by decide) (hts _ lfX2_15) (fun _ h9 => h9) rfl dX2_write_20 ?_
    refine lv_iconst (v := (1 : Int32)) hx hb dX2_write_23 (by decide) ?_
    refine lv_iadd hx hb dX2_write_24 ?_
    refine lv_topi (fun y5 ey5 => ?_)
    have hf := nmeU ey5 hf
    refine va_put (D := D) (ci := 2) (v := .int y5) (ty := .int) (C := RX2) (T := TX2) (N := 2) hx hb hts inX2 tyX2 tyX2_ok nmX2 hown hK hP hD hS 0 rfl rfl 0 (by decide) (hts _ lfX2_15) (fun _ h9 => h9) rfl (tyX2_ok 0 (by decide)) rfl rfl (Nat.le_of_ble_eq_true rfl) dX2_write_25 (fun H locs hP hD hS => ?_)
    have hP : va_P D vwCl [(q_t, .inr (2, [.int y5, .ref q_t_signs])), (q_t_signs, .inl (G 0, 60, .inl g4))] H := hP
    have hD : va_D A [(q_t, .inr (2, [.int y5, .ref q_t_signs])), (q_t_signs, .inl (G 0, 60, .inl g4))] := hD
    exact RT _ _ hf _ _ _ H locs dX2_write_28 rkV hP hD hS
  · have hf := ifn c3 hf
    exact RT _ _ hf _ _ _ H locs dX2_write_7 rkV hP hD hS
set_option maxHeartbeats 4000000 in
set_option maxRecDepth 100000 in
theorem kX3_partnersBefore (l : Launch) (D : va_G) (G : Nat → ClassId) (fu : Nat) (v0 : Int32) (v1 : Int32) {r : Int32} (hf : fX3_partnersBefore fu v0 v1 = some r) : rO l D G yX3_partnersBefore cX3_partnersBefore 5 (some .int) 1 60 [.int v0, .int v1] [] (some (.int r)) := by
  refine rO_of (by decide) (Nat.le_of_ble_eq_true rfl) ?_
  intro p e s m args below meth c Q hx hb hml hown hts hK hn hP RET ls hl
  have RT : ∀ (a0_ : Int32), some a0_ = some r → ∀ (pc : Nat) (ls : Array Slot) (ins : Instr), decode cX3_partnersBefore pc = .ok (ins, 1) → rk (some .int) (some (.int a0_)) ins → W p l e (kR 1 60) s m args below meth c s.heap [] 0 0 Q (F0 m pc ls [.int a0_]) := by
    intro a0_ hy; obtain rfl := sm1 hy
    exact RET
  have hown : s.vm.findClass RX3 = some m.cls := hown
  have hl : lv_has ls 5 [(0, .int v0), (1, .int v1)] := hl
  clear RET
  rw [fX3_partnersBefore] at hf
  refine lv_iconst (v := (0 : Int32)) hx hb dX3_partnersBefore_0 (by decide) ?_
  refine lv_istore_n (lv' := [(2, .int (0 : Int32)), (0, .int v0), (1, .int v1)]) hx hb dX3_partnersBefore_1 rfl hl (by decide) rfl (fun ls hl => ?_)
  refine lv_iconst (v := (0 : Int32)) hx hb dX3_partnersBefore_2 (by decide) ?_
  refine lv_istore_n (lv' := [(3, .int (0 : Int32)), (2, .int (0 : Int32)), (0, .int v0), (1, .int v1)]) hx hb dX3_partnersBefore_3 rfl hl (by decide) rfl (fun ls hl => ?_)
  obtain ⟨u11, h15, hf⟩ := bd1E hf
  have E12 : ∀ (z22 : Int32), some z22 = some u11 → ∀ ls : Array Slot, lv_has ls 5 [(2, .int z22)] → W p l e (kR 1 60) s m args below meth c s.heap [] 0 0 Q (F0 m 42 ls []) := by
    intro z22 hy; obtain rfl := sm1 hy
    intro ls hl
    refine lv_iload_n hx hb dX3_partnersBefore_42 rfl (lv_at hl 0 rfl) ?_
    exact RT _ hf _ _ _ dX3_partnersBefore_43 (rkI _)
  have L13 : ∀ (k : Nat) (w9 : Int32) (w10 : Int32), fX3_partnersBefore_4 v0 v1 k w9 w10 = some u11 → ∀ ls : Array Slot, lv_has ls 5 [(0, .int v0), (1, .int v1), (2, .int w9), (3, .int w10)] → W p l e (kR 1 60) s m args below meth c s.heap [] 0 0 Q (F0 m 4 ls []) := by
    intro k; induction k with
    | zero => intro w9 w10 hf; exact nosome hf
    | succ k ih =>
      intro w9 w10 hf; rw [fX3_partnersBefore_4] at hf
      intro ls hl
      refine lv_iload_n hx hb dX3_partnersBefore_4 rfl (lv_at hl 3 rfl) ?_
      refine lv_iload_n hx hb dX3_partnersBefore_5 rfl (lv_at hl 0 rfl) ?_
      refine lv_icmp_ge (tgt := 42) hx hb dX3_partnersBefore_6 (by decide) (fun c18 => ?_) (fun c18 => ?_)
      · have hf := ifp c18 hf
        exact E12 _ hf ls (lv_sub hl [2] rfl)
      · have hf := ifn c18 hf
        refine lv_iload_n hx hb dX3_partnersBefore_9 rfl (lv_at hl 3 rfl) ?_
        refine lv_bipush (v := (11 : Int32)) hx hb dX3_partnersBefore_10 (by decide) ?_
        refine lv_iload_n hx hb dX3_partnersBefore_12 rfl (lv_at hl 3 rfl) ?_
        refine lv_isub hx hb dX3_partnersBefore_13 ?_
        refine lv_imul hx hb dX3_partnersBefore_14 ?_
        refine lv_iconst (v := (2 : Int32)) hx hb dX3_partnersBefore_15 (by decide) ?_
        refine lv_idiv hx hb dX3_partnersBefore_16 (by decide) ?_
        refine lv_iload_n hx hb dX3_partnersBefore_17 rfl (lv_at hl 0 rfl) ?_
        refine lv_iadd hx hb dX3_partnersBefore_18 ?_
        refine lv_iload_n hx hb dX3_partnersBefore_19 rfl (lv_at hl 3 rfl) ?_
        refine lv_isub hx hb dX3_partnersBefore_20 ?_
        refine lv_iconst (v := (1 : Int32)) hx hb dX3_partnersBefore_21 (by decide) ?_
        refine lv_isub hx hb dX3_partnersBefore_22 ?_
        refine lv_topi (fun y19 ey19 => ?_)
        have hf := nmeU ey19 hf
        refine lv_istore (lv' := [(4, .int y19), (0, .int v0), (1, .int v1), (2, .int w9), (3, .int w10)]) hx hb dX3_partnersBefore_23 hl (by decide) rfl (fun ls hl => ?_)
        refine lv_iload_n hx hb dX3_partnersBefore_25 rfl (lv_at hl 3 rfl) ?_
        refine lv_iload_n hx hb dX3_partnersBefore_26 rfl (lv_at hl 2 rfl) ?_
        refine lv_iload hx hb dX3_partnersBefore_27 (lv_at hl 0 rfl) ?_
        refine lv_ishr hx hb dX3_partnersBefore_29 ?_
        refine lv_iconst (v := (1 : Int32)) hx hb dX3_partnersBefore_30 (by decide) ?_
        refine lv_iand hx hb dX3_partnersBefore_31 ?_
        refine lv_iload_n hx hb dX3_partnersBefore_32 rfl (lv_at hl 4 rfl) ?_
        refine lv_ishl hx hb dX3_partnersBefore_33 ?_
        refine lv_ior hx hb dX3_partnersBefore_34 ?_
        refine lv_topi (fun y20 ey20 => ?_)
        have hf := nmeU ey20 hf
        refine lv_istore_n (lv' := [(2, .int y20), (4, .int y19), (0, .int v0), (1, .int v1), (3, .int w10)]) hx hb dX3_partnersBefore_35 rfl hl (by decide) rfl (fun ls hl => ?_)
        obtain ⟨y21, ey21⟩ : ∃ y : Int32, y = w10 + (1 : Int32) := ⟨_, rfl⟩
        have hf := nmeU ey21 hf
        refine lv_iinc (v := y21) (lv' := [(3, .int y21), (2, .int y20), (4, .int y19), (0, .int v0), (1, .int v1)]) hx hb dX3_partnersBefore_36 hl (k := 4) rfl (by rw [ey21]; rfl) (by decide) rfl (fun ls hl => ?_)
        refine lv_goto (tgt := 4) hx hb dX3_partnersBefore_39 (by decide) ?_
        exact ih _ _ hf ls (lv_sub hl [3, 4, 1, 0] rfl)
  exact L13 fu (0 : Int32) (0 : Int32) h15 ls (lv_sub hl [2, 3, 1, 0] rfl)
set_option maxHeartbeats 4000000 in
set_option maxRecDepth 100000 in
theorem kX3_setIn (l : Launch) (D : va_G) (G : Nat → ClassId) (v0 : Int32) (v1 : Int32) {r : Int32} (hf : fX3_setIn v0 v1 = some r) : rO l D G yX3_setIn cX3_setIn 2 (some .int) 1 60 [.int v0, .int v1] [] (some (.int r)) := by
  refine rO_of (by decide) (Nat.le_of_ble_eq_true rfl) ?_
  intro p e s m args below meth c Q hx hb hml hown hts hK hn hP RET ls hl
  have RT : ∀ (a0_ : Int32), some a0_ = some r → ∀ (pc : Nat) (ls : Array Slot) (ins : Instr), decode cX3_setIn pc = .ok (ins, 1) → rk (some .int) (some (.int a0_)) ins → W p l e (kR 1 60) s m args below meth c s.heap [] 0 0 Q (F0 m pc ls [.int a0_]) := by
    intro a0_ hy; obtain rfl := sm1 hy
    exact RET
  have hown : s.vm.findClass RX3 = some m.cls := hown
  have hl : lv_has ls 2 [(0, .int v0), (1, .int v1)] := hl
  clear RET
  rw [fX3_setIn] at hf
  refine lv_iload_n hx hb dX3_setIn_0 rfl (lv_at hl 0 rfl) ?_
  refine lv_iload_n hx hb dX3_setIn_1 rfl (lv_at hl 1 rfl) ?_
  refine lv_bipush (v := (6 : Int32)) hx hb dX3_setIn_2 (by decide) ?_
  refine lv_imul hx hb dX3_setIn_4 ?_
  refine lv_ishr hx hb dX3_setIn_5 ?_
  refine lv_bipush (v := (63 : Int32)) hx hb dX3_setIn_6 (by decide) ?_
  refine lv_iand hx hb dX3_setIn_8 ?_
  exact RT _ hf _ _ _ dX3_setIn_9 (rkI _)
set_option maxHeartbeats 4000000 in
set_option maxRecDepth 100000 in
theorem kX3_suits (l : Launch) (D : va_G) (G : Nat → ClassId) (q_t q_t_needs q_t_apartFrom q_t_togetherWith : Nat) (t_hours : Int32) (t_number : Int32) (t_apartFrom : Nat → Int32) (t_togetherWith : Nat → Int32) (v1 : Int32) (v2 : Int32) {r : Int32} (hf : fX3_suits t_apartFrom t_togetherWith v1 v2 = some r) : rO l D G yX3_suits cX3_suits 3 (some .boolean) 1 60 [.ref q_t, .int v1, .int v2] [(q_t, .inr (3, [.int t_hours, .int t_number, .ref q_t_needs, .ref q_t_apartFrom, .ref q_t_togetherWith])), (q_t_apartFrom, .inl (G 0, 6, .inl t_apartFrom)), (q_t_togetherWith, .inl (G 0, 6, .inl t_togetherWith))] (some (.int r)) := by
  refine rO_of (by decide) (Nat.le_of_ble_eq_true rfl) ?_
  intro p e s m args below meth c Q hx hb hml hown hts hK hn hP RET ls hl
  have RT : ∀ (a0_ : Int32), some a0_ = some r → ∀ (pc : Nat) (ls : Array Slot) (ins : Instr), decode cX3_suits pc = .ok (ins, 1) → rk (some .boolean) (some (.int a0_)) ins → W p l e (kR 1 60) s m args below meth c s.heap [] 0 0 Q (F0 m pc ls [.int a0_]) := by
    intro a0_ hy; obtain rfl := sm1 hy
    exact RET
  have hown : s.vm.findClass RX3 = some m.cls := hown
  have hl : lv_has ls 3 [(0, .ref q_t), (1, .int v1), (2, .int v2)] := hl
  clear RET
  rw [fX3_suits] at hf
  refine lv_aload_n hx hb dX3_suits_0 rfl (lv_at hl 0 rfl) ?_
  refine va_get (D := D) (ci := 3) (v := .ref q_t_apartFrom) (C := RX3) (T := TX3) (N := 5) hx hb hts inX3 hown hK hP 0 rfl rfl 3 (by decide) (hts _ lfX3_15) (fun _ h9 => h9) rfl dX3_suits_1 ?_
  refine lv_iload_n hx hb dX3_suits_4 rfl (lv_at hl 1 rfl) ?_
  obtain ⟨x1, ex1, ix1, hf⟩ := ldIE hf
  refine k_iald hx hb hK hP 1 0 rfl rfl ix1 ex1 dX3_suits_5 ?_
  refine lv_iload_n hx hb dX3_suits_6 rfl (lv_at hl 2 rfl) ?_
  refine lv_iand hx hb dX3_suits_7 ?_
  refine lv_if_ne (tgt := 28) hx hb dX3_suits_8 (by decide) (fun c2 => ?_) (fun c2 => ?_)
  · have hf := ifn c2 hf
    refine lv_iconst (v := (0 : Int32)) hx hb dX3_suits_28 (by decide) ?_
    exact RT _ hf _ _ _ dX3_suits_29 (rkZ (Or.inl rfl))
  · have hf := ifp c2 hf
    refine lv_aload_n hx hb dX3_suits_11 rfl (lv_at hl 0 rfl) ?_
    refine va_get (D := D) (ci := 3) (v := .ref q_t_togetherWith) (C := RX3) (T := TX3) (N := 5) hx hb hts inX3 hown hK hP 0 rfl rfl 4 (by decide) (hts _ lfX3_18) (fun _ h9 => h9) rfl dX3_suits_12 ?_
    refine lv_iload_n hx hb dX3_suits_15 rfl (lv_at hl 1 rfl) ?_
    obtain ⟨x3, ex3, ix3, hf⟩ := ldIE hf
    refine k_iald hx hb hK hP 2 0 rfl rfl ix3 ex3 dX3_suits_16 ?_
    refine lv_iload_n hx hb dX3_suits_17 rfl (lv_at hl 2 rfl) ?_
    refine lv_iconst (v := (-1 : Int32)) hx hb dX3_suits_18 (by decide) ?_
    refine lv_ixor hx hb dX3_suits_19 ?_
    refine lv_iand hx hb dX3_suits_20 ?_
    refine lv_if_ne (tgt := 28) hx hb dX3_suits_21 (by decide) (fun c4 => ?_) (fun c4 => ?_)
    · have hf := ifn c4 hf
      refine lv_iconst (v := (0 : Int32)) hx hb dX3_suits_28 (by decide) ?_
      exact RT _ hf _ _ _ dX3_suits_29 (rkZ (Or.inl rfl))
    · have hf := ifp c4 hf
      refine lv_iconst (v := (1 : Int32)) hx hb dX3_suits_24 (by decide) ?_
      refine lv_goto (tgt := 29) hx hb dX3_suits_25 (by decide) ?_
      exact RT _ hf _ _ _ dX3_suits_29 (rkZ (Or.inr rfl))
set_option maxHeartbeats 4000000 in
set_option maxRecDepth 100000 in
theorem kX3_join (l : Launch) (D : va_G) (G : Nat → ClassId) (v0 : Int32) (v1 : Int32) (v2 : Int32) {r : Int32} (hf : fX3_join v0 v1 v2 = some r) : rO l D G yX3_join cX3_join 3 (some .int) 1 60 [.int v0, .int v1, .int v2] [] (some (.int r)) := by
  refine rO_of (by decide) (Nat.le_of_ble_eq_true rfl) ?_
  intro p e s m args below meth c Q hx hb hml hown hts hK hn hP RET ls hl
  have RT : ∀ (a0_ : Int32), some a0_ = some r → ∀ (pc : Nat) (ls : Array Slot) (ins : Instr), decode cX3_join pc = .ok (ins, 1) → rk (some .int) (some (.int a0_)) ins → W p l e (kR 1 60) s m args below meth c s.heap [] 0 0 Q (F0 m pc ls [.int a0_]) := by
    intro a0_ hy; obtain rfl := sm1 hy
    exact RET
  have hown : s.vm.findClass RX3 = some m.cls := hown
  have hl : lv_has ls 3 [(0, .int v0), (1, .int v1), (2, .int v2)] := hl
  clear RET
  rw [fX3_join] at hf
  refine lv_iload_n hx hb dX3_join_0 rfl (lv_at hl 0 rfl) ?_
  refine lv_iconst (v := (1 : Int32)) hx hb dX3_join_1 (by decide) ?_
  refine lv_iload_n hx hb dX3_join_2 rfl (lv_at hl 1 rfl) ?_
  refine lv_bipush (v := (6 : Int32)) hx hb dX3_join_3 (by decide) ?_
  refine lv_imul hx hb dX3_join_5 ?_
  refine lv_iload_n hx hb dX3_join_6 rfl (lv_at hl 2 rfl) ?_
  refine lv_iadd hx hb dX3_join_7 ?_
  refine lv_ishl hx hb dX3_join_8 ?_
  refine lv_ior hx hb dX3_join_9 ?_
  exact RT _ hf _ _ _ dX3_join_10 (rkI _)
set_option maxHeartbeats 4000000 in
set_option maxRecDepth 100000 in
theorem kX3_waysFrom (l : Launch) (D : va_G) (G : Nat → ClassId) (fu : Nat) : ∀ (dp : Nat) (q_t q_t_needs q_t_apartFrom q_t_togetherWith : Nat) (t_hours : Int32) (t_number : Int32) (t_apartFrom : Nat → Int32) (t_togetherWith : Nat → Int32) (v1 : Int32) (v2 : Int32) (v3 : Int32) (v4 : Int32) (v5 : Int32) {r : Int32}, fX3_waysFrom fu dp t_apartFrom t_togetherWith v1 v2 v3 v4 v5 = some r → rO l D G yX3_waysFrom cX3_waysFrom 8 (some .int) (dp + 2) (60 * dp + 82) [.ref q_t, .int v1, .int v2, .int v3, .int v4, .int v5] [(q_t, .inr (3, [.int t_hours, .int t_number, .ref q_t_needs, .ref q_t_apartFrom, .ref q_t_togetherWith])), (q_t_apartFrom, .inl (G 0, 6, .inl t_apartFrom)), (q_t_togetherWith, .inl (G 0, 6, .inl t_togetherWith))] (some (.int r)) := by
  intro dp; induction dp with
  | zero => intro q_t q_t_needs q_t_apartFrom q_t_togetherWith t_hours t_number t_apartFrom t_togetherWith v1 v2 v3 v4 v5 r hf; exact nosome hf
  | succ dp ihd =>
    intro q_t q_t_needs q_t_apartFrom q_t_togetherWith t_hours t_number t_apartFrom t_togetherWith v1 v2 v3 v4 v5 r hf
    refine rO_of (by decide) (Nat.le_of_ble_eq_true rfl) ?_
    intro p e s m args below meth c Q hx hb hml hown hts hK hn hP RET ls hl
    have RT : ∀ (a0_ : Int32), some a0_ = some r → ∀ (pc : Nat) (ls : Array Slot) (ins : Instr), decode cX3_waysFrom pc = .ok (ins, 1) → rk (some .int) (some (.int a0_)) ins → W p l e (kR (dp + 1 + 2) (60 * (dp + 1) + 82)) s m args below meth c s.heap [] 0 0 Q (F0 m pc ls [.int a0_]) := by
      intro a0_ hy; obtain rfl := sm1 hy
      exact RET
    have hown : s.vm.findClass RX3 = some m.cls := hown
    have hl : lv_has ls 8 [(0, .ref q_t), (1, .int v1), (2, .int v2), (3, .int v3), (4, .int v4), (5, .int v5)] := hl
    clear RET
    rw [fX3_waysFrom] at hf
    refine lv_iload_n hx hb dX3_waysFrom_0 rfl (lv_at hl 3 rfl) ?_
    refine lv_bipush (v := (6 : Int32)) hx hb dX3_waysFrom_1 (by decide) ?_
    refine lv_icmp_lt (tgt := 8) hx hb dX3_waysFrom_3 (by decide) (fun c1 => ?_) (fun c1 => ?_)
    · have hf := ifp c1 hf
      refine lv_iload_n hx hb dX3_waysFrom_8 rfl (lv_at hl 1 rfl) ?_
      refine lv_iload_n hx hb dX3_waysFrom_9 rfl (lv_at hl 3 rfl) ?_
      refine lv_ishr hx hb dX3_waysFrom_10 ?_
      refine lv_iconst (v := (1 : Int32)) hx hb dX3_waysFrom_11 (by decide) ?_
      refine lv_iand hx hb dX3_waysFrom_12 ?_
      refine lv_if_ne (tgt := 30) hx hb dX3_waysFrom_13 (by decide) (fun c2 => ?_) (fun c2 => ?_)
      · have hf := ifn c2 hf
        refine lv_iconst (v := (0 : Int32)) hx hb dX3_waysFrom_30 (by decide) ?_
        refine lv_istore (lv' := [(6, .int (0 : Int32)), (0, .ref q_t), (1, .int v1), (2, .int v2), (3, .int v3), (4, .int v4), (5, .int v5)]) hx hb dX3_waysFrom_31 hl (by decide) rfl (fun ls hl => ?_)
        refine lv_iconst (v := (0 : Int32)) hx hb dX3_waysFrom_33 (by decide) ?_
        refine lv_istore (lv' := [(7, .int (0 : Int32)), (6, .int (0 : Int32)), (0, .ref q_t), (1, .int v1), (2, .int v2), (3, .int v3), (4, .int v4), (5, .int v5)]) hx hb dX3_waysFrom_34 hl (by decide) rfl (fun ls hl => ?_)
        obtain ⟨u38, h42, hf⟩ := bd1E hf
        have E39 : ∀ (z67 : Int32), some z67 = some u38 → ∀ ls : Array Slot, lv_has ls 8 [(0, .ref q_t), (1, .int v1), (2, .int v2), (3, .int v3), (4, .int v4), (5, .int v5), (6, .int z67)] → W p l e (kR (dp + 1 + 2) (60 * (dp + 1) + 82)) s m args below meth c s.heap [] 0 0 Q (F0 m 88 ls []) := by
          intro z67 hy; obtain rfl := sm1 hy
          intro ls hl
          refine lv_iload hx hb dX3_waysFrom_88 (lv_at hl 5 rfl) ?_
          refine lv_iload_n hx hb dX3_waysFrom_90 rfl (lv_at hl 2 rfl) ?_
          obtain ⟨j87, h109, hf⟩ := bd1E hf
          have E89 : ∀ (z88 : Int32), some z88 = some j87 → ∀ ls : Array Slot, lv_has ls 8 [(6, .int z88)] → W p l e (kR (dp + 1 + 2) (60 * (dp + 1) + 82)) s m args below meth c s.heap [] 0 0 Q (F0 m 134 ls []) := by
            intro z88 hy; obtain rfl := sm1 hy
            intro ls hl
            refine lv_iload hx hb dX3_waysFrom_134 (lv_at hl 0 rfl) ?_
            exact RT _ hf _ _ _ dX3_waysFrom_136 (rkI _)
          have hf := h109
          refine lv_icmp_ge (tgt := 134) hx hb dX3_waysFrom_91 (by decide) (fun c90 => ?_) (fun c90 => ?_)
          · have hf := ifp c90 hf
            exact E89 _ hf ls (lv_sub hl [6] rfl)
          · have hf := ifn c90 hf
            refine lv_aload_n hx hb dX3_waysFrom_94 rfl (lv_at hl 0 rfl) ?_
            refine lv_iload_n hx hb dX3_waysFrom_95 rfl (lv_at hl 3 rfl) ?_
            refine lv_iconst (v := (0 : Int32)) hx hb dX3_waysFrom_96 (by decide) ?_
            obtain ⟨r91, h92, hf⟩ := bd1E hf
            refine kO_virt hx hb hml hown hts hK hn hP (kX3_suits l D G q_t q_t_needs q_t_apartFrom q_t_togetherWith t_hours t_number t_apartFrom t_togetherWith v3 (0 : Int32) h92) cvX3_76 ⟨by show 1 + 1 ≤ dp + 1 + 2; omega, by show 8 + (3 + 11) + 60 ≤ 60 * (dp + 1) + 82; omega⟩ [0, 1, 2] rfl 0 rfl rfl rfl hl.1 rfl (Nat.le_of_ble_eq_true rfl) ⟨Nat.zero_le _, Nat.zero_le _⟩ dX3_waysFrom_97 ?_
            obtain ⟨j99, h108, hf⟩ := bd1E hf
            have E101 : ∀ (z100 : Int32), some z100 = some j99 → ∀ ls : Array Slot, lv_has ls 8 [(6, .int z100)] → W p l e (kR (dp + 1 + 2) (60 * (dp + 1) + 82)) s m args below meth c s.heap [] 0 0 Q (F0 m 134 ls []) := by
              intro z100 hy; obtain rfl := sm1 hy
              intro ls hl
              exact E89 _ hf ls (lv_sub hl [0] rfl)
            have hf := h108
            refine lv_if_eq (tgt := 134) hx hb dX3_waysFrom_100 (by decide) (fun c102 => ?_) (fun c102 => ?_)
            · have hf := ifp c102 hf
              exact E101 _ hf ls (lv_sub hl [6] rfl)
            · have hf := ifn c102 hf
              refine lv_iload hx hb dX3_waysFrom_103 (lv_at hl 6 rfl) ?_
              refine lv_iload_n hx hb dX3_waysFrom_105 rfl (lv_at hl 2 rfl) ?_
              refine lv_iload hx hb dX3_waysFrom_106 (lv_at hl 5 rfl) ?_
              refine lv_isub hx hb dX3_waysFrom_108 ?_
              refine lv_aload_n hx hb dX3_waysFrom_109 rfl (lv_at hl 0 rfl) ?_
              refine lv_iload_n hx hb dX3_waysFrom_110 rfl (lv_at hl 1 rfl) ?_
              refine lv_iload_n hx hb dX3_waysFrom_111 rfl (lv_at hl 2 rfl) ?_
              refine lv_iload_n hx hb dX3_waysFrom_112 rfl (lv_at hl 3 rfl) ?_
              refine lv_iconst (v := (1 : Int32)) hx hb dX3_waysFrom_113 (by decide) ?_
              refine lv_iadd hx hb dX3_waysFrom_114 ?_
              refine lv_iload hx hb dX3_waysFrom_115 (lv_at hl 4 rfl) ?_
              refine lv_iload hx hb dX3_waysFrom_117 (lv_at hl 5 rfl) ?_
              refine lv_iload_n hx hb dX3_waysFrom_119 rfl (lv_at hl 3 rfl) ?_
              obtain ⟨r103, h104, hf⟩ := bd1E hf
              refine kO_stat hx hb hml hown hts hK hn hP (kX3_join l D G v4 v5 v3 h104) csX3_63 ⟨by show 1 + 1 ≤ dp + 1 + 2; omega, by show 8 + (3 + 11) + 60 ≤ 60 * (dp + 1) + 82; omega⟩ [] rfl rfl hl.1 rfl (Nat.le_of_ble_eq_true rfl) ⟨Nat.zero_le _, Nat.zero_le _⟩ dX3_waysFrom_120 ?_
              refine lv_iload hx hb dX3_waysFrom_123 (lv_at hl 5 rfl) ?_
              refine lv_iconst (v := (1 : Int32)) hx hb dX3_waysFrom_125 (by decide) ?_
              refine lv_iadd hx hb dX3_waysFrom_126 ?_
              obtain ⟨r105, h106, hf⟩ := bd1E hf
              refine kO_virt hx hb hml hown hts hK hn hP (ihd q_t q_t_needs q_t_apartFrom q_t_togetherWith t_hours t_number t_apartFrom t_togetherWith v1 v2 (v3 + (1 : Int32)) r103 (v5 + (1 : Int32)) h106) cvX3_72 ⟨by show dp + 2 + 1 ≤ dp + 1 + 2; omega, by show 8 + (8 + 11) + (60 * dp + 82) ≤ 60 * (dp + 1) + 82; omega⟩ [0, 1, 2] rfl 0 rfl rfl rfl hl.1 rfl (Nat.le_of_ble_eq_true rfl) ⟨Nat.zero_le _, Nat.zero_le _⟩ dX3_waysFrom_127 ?_
              refine lv_imul hx hb dX3_waysFrom_130 ?_
              refine lv_iadd hx hb dX3_waysFrom_131 ?_
              refine lv_topi (fun y107 ey107 => ?_)
              have hf := nmeU ey107 hf
              refine lv_istore (lv' := [(6, .int y107), (0, .ref q_t), (1, .int v1), (2, .int v2), (3, .int v3), (4, .int v4), (5, .int v5)]) hx hb dX3_waysFrom_132 hl (by decide) rfl (fun ls hl => ?_)
              exact E101 _ hf ls (lv_sub hl [0] rfl)
        have L40 : ∀ (k : Nat) (w36 : Int32) (w37 : Int32), fX3_waysFrom_36 v5 v4 t_apartFrom t_togetherWith v3 (fX3_waysFrom fu dp) v1 v2 k w36 w37 = some u38 → ∀ ls : Array Slot, lv_has ls 8 [(0, .ref q_t), (1, .int v1), (2, .int v2), (3, .int v3), (4, .int v4), (5, .int v5), (6, .int w36), (7, .int w37)] → W p l e (kR (dp + 1 + 2) (60 * (dp + 1) + 82)) s m args below meth c s.heap [] 0 0 Q (F0 m 36 ls []) := by
          intro k; induction k with
          | zero => intro w36 w37 hf; exact nosome hf
          | succ k ih =>
            intro w36 w37 hf; rw [fX3_waysFrom_36] at hf
            intro ls hl
            refine lv_iload hx hb dX3_waysFrom_36 (lv_at hl 7 rfl) ?_
            refine lv_iload hx hb dX3_waysFrom_38 (lv_at hl 5 rfl) ?_
            refine lv_icmp_ge (tgt := 88) hx hb dX3_waysFrom_40 (by decide) (fun c45 => ?_) (fun c45 => ?_)
            · have hf := ifp c45 hf
              exact E39 _ hf ls (lv_sub hl [0, 1, 2, 3, 4, 5, 6] rfl)
            · have hf := ifn c45 hf
              refine lv_aload_n hx hb dX3_waysFrom_43 rfl (lv_at hl 0 rfl) ?_
              refine lv_iload_n hx hb dX3_waysFrom_44 rfl (lv_at hl 3 rfl) ?_
              refine lv_iload hx hb dX3_waysFrom_45 (lv_at hl 4 rfl) ?_
              refine lv_iload hx hb dX3_waysFrom_47 (lv_at hl 7 rfl) ?_
              obtain ⟨r46, h47, hf⟩ := bd1E hf
              refine kO_stat hx hb hml hown hts hK hn hP (kX3_setIn l D G v4 w37 h47) csX3_66 ⟨by show 1 + 1 ≤ dp + 1 + 2; omega, by show 8 + (2 + 11) + 60 ≤ 60 * (dp + 1) + 82; omega⟩ [] rfl rfl hl.1 rfl (Nat.le_of_ble_eq_true rfl) ⟨Nat.zero_le _, Nat.zero_le _⟩ dX3_waysFrom_49 ?_
              obtain ⟨r48, h49, hf⟩ := bd1E hf
              refine kO_virt hx hb hml hown hts hK hn hP (kX3_suits l D G q_t q_t_needs q_t_apartFrom q_t_togetherWith t_hours t_number t_apartFrom t_togetherWith v3 r46 h49) cvX3_76 ⟨by show 1 + 1 ≤ dp + 1 + 2; omega, by show 8 + (3 + 11) + 60 ≤ 60 * (dp + 1) + 82; omega⟩ [0, 1, 2] rfl 0 rfl rfl rfl hl.1 rfl (Nat.le_of_ble_eq_true rfl) ⟨Nat.zero_le _, Nat.zero_le _⟩ dX3_waysFrom_52 ?_
              obtain ⟨j56, h66, hf⟩ := bd1E hf
              have E59 : ∀ (z57 : Int32), some z57 = some j56 → ∀ ls : Array Slot, lv_has ls 8 [(0, .ref q_t), (1, .int v1), (2, .int v2), (3, .int v3), (4, .int v4), (5, .int v5), (6, .int z57), (7, .int w37)] → W p l e (kR (dp + 1 + 2) (60 * (dp + 1) + 82)) s m args below meth c s.heap [] 0 0 Q (F0 m 82 ls []) := by
                intro z57 hy; obtain rfl := sm1 hy
                intro ls hl
                obtain ⟨y58, ey58⟩ : ∃ y : Int32, y = w37 + (1 : Int32) := ⟨_, rfl⟩
                have hf := nmeU ey58 hf
                refine lv_iinc (v := y58) (lv' := [(7, .int y58), (0, .ref q_t), (1, .int v1), (2, .int v2), (3, .int v3), (4, .int v4), (5, .int v5), (6, .int z57)]) hx hb dX3_waysFrom_82 hl (k := 7) rfl (by rw [ey58]; rfl) (by decide) rfl (fun ls hl => ?_)
                refine lv_goto (tgt := 36) hx hb dX3_waysFrom_85 (by decide) ?_
                exact ih _ _ hf ls (lv_sub hl [1, 2, 3, 4, 5, 6, 7, 0] rfl)
              have hf := h66
              refine lv_if_eq (tgt := 82) hx hb dX3_waysFrom_55 (by decide) (fun c60 => ?_) (fun c60 => ?_)
              · have hf := ifp c60 hf
                exact E59 _ hf ls (lv_sub hl [0, 1, 2, 3, 4, 5, 6, 7] rfl)
              · have hf := ifn c60 hf
                refine lv_iload hx hb dX3_waysFrom_58 (lv_at hl 6 rfl) ?_
                refine lv_aload_n hx hb dX3_waysFrom_60 rfl (lv_at hl 0 rfl) ?_
                refine lv_iload_n hx hb dX3_waysFrom_61 rfl (lv_at hl 1 rfl) ?_
                refine lv_iload_n hx hb dX3_waysFrom_62 rfl (lv_at hl 2 rfl) ?_
                refine lv_iload_n hx hb dX3_waysFrom_63 rfl (lv_at hl 3 rfl) ?_
                refine lv_iconst (v := (1 : Int32)) hx hb dX3_waysFrom_64 (by decide) ?_
                refine lv_iadd hx hb dX3_waysFrom_65 ?_
                refine lv_iload hx hb dX3_waysFrom_66 (lv_at hl 4 rfl) ?_
                refine lv_iload hx hb dX3_waysFrom_68 (lv_at hl 7 rfl) ?_
                refine lv_iload_n hx hb dX3_waysFrom_70 rfl (lv_at hl 3 rfl) ?_
                obtain ⟨r61, h62, hf⟩ := bd1E hf
                refine kO_stat hx hb hml hown hts hK hn hP (kX3_join l D G v4 w37 v3 h62) csX3_63 ⟨by show 1 + 1 ≤ dp + 1 + 2; omega, by show 8 + (3 + 11) + 60 ≤ 60 * (dp + 1) + 82; omega⟩ [] rfl rfl hl.1 rfl (Nat.le_of_ble_eq_true rfl) ⟨Nat.zero_le _, Nat.zero_le _⟩ dX3_waysFrom_71 ?_
                refine lv_iload hx hb dX3_waysFrom_74 (lv_at hl 5 rfl) ?_
                obtain ⟨r63, h64, hf⟩ := bd1E hf
                refine kO_virt hx hb hml hown hts hK hn hP (ihd q_t q_t_needs q_t_apartFrom q_t_togetherWith t_hours t_number t_apartFrom t_togetherWith v1 v2 (v3 + (1 : Int32)) r61 v5 h64) cvX3_72 ⟨by show dp + 2 + 1 ≤ dp + 1 + 2; omega, by show 8 + (8 + 11) + (60 * dp + 82) ≤ 60 * (dp + 1) + 82; omega⟩ [0, 1, 2] rfl 0 rfl rfl rfl hl.1 rfl (Nat.le_of_ble_eq_true rfl) ⟨Nat.zero_le _, Nat.zero_le _⟩ dX3_waysFrom_76 ?_
                refine lv_iadd hx hb dX3_waysFrom_79 ?_
                refine lv_topi (fun y65 ey65 => ?_)
                have hf := nmeU ey65 hf
                refine lv_istore (lv' := [(6, .int y65), (0, .ref q_t), (1, .int v1), (2, .int v2), (3, .int v3), (4, .int v4), (5, .int v5), (7, .int w37)]) hx hb dX3_waysFrom_80 hl (by decide) rfl (fun ls hl => ?_)
                exact E59 _ hf ls (lv_sub hl [1, 2, 3, 4, 5, 6, 0, 7] rfl)
        exact L40 fu (0 : Int32) (0 : Int32) h42 ls (lv_sub hl [2, 3, 4, 5, 6, 7, 1, 0] rfl)
      · have hf := ifp c2 hf
        refine lv_aload_n hx hb dX3_waysFrom_16 rfl (lv_at hl 0 rfl) ?_
        refine lv_iload_n hx hb dX3_waysFrom_17 rfl (lv_at hl 1 rfl) ?_
        refine lv_iload_n hx hb dX3_waysFrom_18 rfl (lv_at hl 2 rfl) ?_
        refine lv_iload_n hx hb dX3_waysFrom_19 rfl (lv_at hl 3 rfl) ?_
        refine lv_iconst (v := (1 : Int32)) hx hb dX3_waysFrom_20 (by decide) ?_
        refine lv_iadd hx hb dX3_waysFrom_21 ?_
        refine lv_iload hx hb dX3_waysFrom_22 (lv_at hl 4 rfl) ?_
        refine lv_iload hx hb dX3_waysFrom_24 (lv_at hl 5 rfl) ?_
        obtain ⟨r110, h111, hf⟩ := bd1E hf
        refine kO_virt hx hb hml hown hts hK hn hP (ihd q_t q_t_needs q_t_apartFrom q_t_togetherWith t_hours t_number t_apartFrom t_togetherWith v1 v2 (v3 + (1 : Int32)) v4 v5 h111) cvX3_72 ⟨by show dp + 2 + 1 ≤ dp + 1 + 2; omega, by show 8 + (8 + 11) + (60 * dp + 82) ≤ 60 * (dp + 1) + 82; omega⟩ [0, 1, 2] rfl 0 rfl rfl rfl hl.1 rfl (Nat.le_of_ble_eq_true rfl) ⟨Nat.zero_le _, Nat.zero_le _⟩ dX3_waysFrom_26 ?_
        exact RT _ hf _ _ _ dX3_waysFrom_29 (rkI _)
    · have hf := ifn c1 hf
      refine lv_iconst (v := (1 : Int32)) hx hb dX3_waysFrom_6 (by decide) ?_
      exact RT _ hf _ _ _ dX3_waysFrom_7 (rkI _)
set_option maxHeartbeats 4000000 in
set_option maxRecDepth 100000 in
theorem kX3_countWays (l : Launch) (D : va_G) (G : Nat → ClassId) (fu : Nat) (q_t q_t_needs q_t_apartFrom q_t_togetherWith : Nat) (t_hours : Int32) (t_number : Int32) (t_apartFrom : Nat → Int32) (t_togetherWith : Nat → Int32) (v1 : Int32) (v2 : Int32) (v3 : Int32) (v4 : Int32) {r : Int32} {o_t_apartFrom : Nat → Int32} {o_t_togetherWith : Nat → Int32} (hf : fX3_countWays fu t_apartFrom t_togetherWith v1 v2 v3 v4 = some (r, o_t_apartFrom, o_t_togetherWith)) : rW l D G yX3_countWays cX3_countWays 6 (some .int) 11 589 [.ref q_t, .int v1, .int v2, .int v3, .int v4] [(q_t, .inr (3, [.int t_hours, .int t_number, .ref q_t_needs, .ref q_t_apartFrom, .ref q_t_togetherWith])), (q_t_apartFrom, .inl (G 0, 6, .inl t_apartFrom)), (q_t_togetherWith, .inl (G 0, 6, .inl t_togetherWith))] [(q_t, .inr (3, [.int t_hours, .int t_number, .ref q_t_needs, .ref q_t_apartFrom, .ref q_t_togetherWith])), (q_t_apartFrom, .inl (G 0, 6, .inl o_t_apartFrom)), (q_t_togetherWith, .inl (G 0, 6, .inl o_t_togetherWith))] (some (.int r)) := by
  refine rW_of (by decide) (Nat.le_of_ble_eq_true rfl) ?_
  intro p e s m args below meth c Q A hx hb hml hown hts hK hn hA RET H locs hP hD hS ls hl
  have RT : ∀ (a0_ : Int32) (a1_ : Nat → Int32) (a2_ : Nat → Int32), some (a0_, a1_, a2_) = some (r, o_t_apartFrom, o_t_togetherWith) → ∀ (pc : Nat) (ls : Array Slot) (ins : Instr) (H : Heap) (locs : List Loc), decode cX3_countWays pc = .ok (ins, 1) → rk (some .int) (some (.int a0_)) ins → va_P D vwCl [(q_t, .inr (3, [.int t_hours, .int t_number, .ref q_t_needs, .ref q_t_apartFrom, .ref q_t_togetherWith])), (q_t_apartFrom, .inl (G 0, 6, .inl a1_)), (q_t_togetherWith, .inl (G 0, 6, .inl a2_))] H → va_D A [(q_t, .inr (3, [.int t_hours, .int t_number, .ref q_t_needs, .ref q_t_apartFrom, .ref q_t_togetherWith])), (q_t_apartFrom, .inl (G 0, 6, .inl a1_)), (q_t_togetherWith, .inl (G 0, 6, .inl a2_))] → va_S A s.heap H locs → W p l e (kR 11 589) s m args below meth c H locs 0 0 Q (F0 m pc ls [.int a0_]) := by
    intro a0_ a1_ a2_ hy; obtain ⟨rfl, rfl, rfl⟩ := sm3 hy
    exact RET
  have hown : s.vm.findClass RX3 = some m.cls := hown
  have hl : lv_has ls 6 [(0, .ref q_t), (1, .int v1), (2, .int v2), (3, .int v3), (4, .int v4)] := hl
  clear RET
  rw [fX3_countWays] at hf
  refine lv_iconst (v := (0 : Int32)) hx hb dX3_countWays_0 (by decide) ?_
  refine lv_istore (lv' := [(5, .int (0 : Int32)), (0, .ref q_t), (1, .int v1), (2, .int v2), (3, .int v3), (4, .int v4)]) hx hb dX3_countWays_1 hl (by decide) rfl (fun ls hl => ?_)
  obtain ⟨u21, u22, h26, hf⟩ := bd2E hf
  have E23 : ∀ (z37 : Nat → Int32) (z38 : Nat → Int32), some (z37, z38) = some (u21, u22) → ∀ (H : Heap) (locs : List Loc), va_P D vwCl [(q_t, .inr (3, [.int t_hours, .int t_number, .ref q_t_needs, .ref q_t_apartFrom, .ref q_t_togetherWith])), (q_t_apartFrom, .inl (G 0, 6, .inl z37)), (q_t_togetherWith, .inl (G 0, 6, .inl z38))] H → va_D A [(q_t, .inr (3, [.int t_hours, .int t_number, .ref q_t_needs, .ref q_t_apartFrom, .ref q_t_togetherWith])), (q_t_apartFrom, .inl (G 0, 6, .inl z37)), (q_t_togetherWith, .inl (G 0, 6, .inl z38))] → va_S A s.heap H locs → ∀ ls : Array Slot, lv_has ls 6 [(0, .ref q_t), (1, .int v1), (4, .int v4)] → W p l e (kR 11 589) s m args below meth c H locs 0 0 Q (F0 m 46 ls []) := by
    intro z37 z38 hy; obtain ⟨rfl, rfl⟩ := sm2 hy
    intro H locs hP hD hS ls hl
    refine lv_aload_n hx hb dX3_countWays_46 rfl (lv_at hl 0 rfl) ?_
    refine lv_iload_n hx hb dX3_countWays_47 rfl (lv_at hl 1 rfl) ?_
    refine lv_iload hx hb dX3_countWays_48 (lv_at hl 2 rfl) ?_
    refine lv_iconst (v := (0 : Int32)) hx hb dX3_countWays_50 (by decide) ?_
    refine lv_iconst (v := (0 : Int32)) hx hb dX3_countWays_51 (by decide) ?_
    refine lv_iconst (v := (0 : Int32)) hx hb dX3_countWays_52 (by decide) ?_
    obtain ⟨r39, h40, hf⟩ := bd1E hf
    refine kO_virt hx hb hml hown hts hK hn hP (kX3_waysFrom l D G fu 8 q_t q_t_needs q_t_apartFrom q_t_togetherWith t_hours t_number z37 z38 v1 v4 (0 : Int32) (0 : Int32) (0 : Int32) h40) cvX3_72 ⟨Nat.le_of_ble_eq_true rfl, Nat.le_of_ble_eq_true rfl⟩ [0, 1, 2] rfl 0 rfl rfl rfl hl.1 rfl (Nat.le_of_ble_eq_true rfl) ⟨Nat.zero_le _, Nat.zero_le _⟩ dX3_countWays_53 ?_
    exact RT _ _ _ hf _ _ _ H locs dX3_countWays_56 (rkI _) hP hD hS
  have L24 : ∀ (k : Nat) (w18 : Int32) (w19 : Nat → Int32) (w20 : Nat → Int32), fX3_countWays_3 fu v2 v1 v3 k w18 w19 w20 = some (u21, u22) → ∀ (H : Heap) (locs : List Loc), va_P D vwCl [(q_t, .inr (3, [.int t_hours, .int t_number, .ref q_t_needs, .ref q_t_apartFrom, .ref q_t_togetherWith])), (q_t_apartFrom, .inl (G 0, 6, .inl w19)), (q_t_togetherWith, .inl (G 0, 6, .inl w20))] H → va_D A [(q_t, .inr (3, [.int t_hours, .int t_number, .ref q_t_needs, .ref q_t_apartFrom, .ref q_t_togetherWith])), (q_t_apartFrom, .inl (G 0, 6, .inl w19)), (q_t_togetherWith, .inl (G 0, 6, .inl w20))] → va_S A s.heap H locs → ∀ ls : Array Slot, lv_has ls 6 [(0, .ref q_t), (1, .int v1), (2, .int v2), (3, .int v3), (4, .int v4), (5, .int w18)] → W p l e (kR 11 589) s m args below meth c H locs 0 0 Q (F0 m 3 ls []) := by
    intro k; induction k with
    | zero => intro w18 w19 w20 hf; exact nosome hf
    | succ k ih =>
      intro w18 w19 w20 hf; rw [fX3_countWays_3] at hf
      intro H locs hP hD hS ls hl
      refine lv_iload hx hb dX3_countWays_3 (lv_at hl 5 rfl) ?_
      refine lv_bipush (v := (6 : Int32)) hx hb dX3_countWays_5 (by decide) ?_
      refine lv_icmp_ge (tgt := 46) hx hb dX3_countWays_7 (by decide) (fun c29 => ?_) (fun c29 => ?_)
      · have hf := ifp c29 hf
        exact E23 _ _ hf H locs hP hD hS ls (lv_sub hl [0, 1, 4] rfl)
      · have hf := ifn c29 hf
        refine lv_aload_n hx hb dX3_countWays_10 rfl (lv_at hl 0 rfl) ?_
        refine va_get (D := D) (ci := 3) (v := .ref q_t_apartFrom) (C := RX3) (T := TX3) (N := 5) hx hb hts inX3 hown hK hP 0 rfl rfl 3 (by decide) (hts _ lfX3_15) (fun _ h9 => h9) rfl dX3_countWays_11 ?_
        refine lv_iload hx hb dX3_countWays_14 (lv_at hl 5 rfl) ?_
        refine lv_iload hx hb dX3_countWays_16 (lv_at hl 5 rfl) ?_
        refine lv_iload_n hx hb dX3_countWays_18 rfl (lv_at hl 2 rfl) ?_
        obtain ⟨r30, h31, hf⟩ := bd1E hf
        refine kO_stat hx hb hml hown hts hK hn hP (kX3_partnersBefore l D G fu w18 v2 h31) csX3_69 ⟨Nat.le_of_ble_eq_true rfl, Nat.le_of_ble_eq_true rfl⟩ [] rfl rfl hl.1 rfl (Nat.le_of_ble_eq_true rfl) ⟨Nat.zero_le _, Nat.zero_le _⟩ dX3_countWays_19 ?_
        refine lv_iload_n hx hb dX3_countWays_22 rfl (lv_at hl 1 rfl) ?_
        refine lv_iand hx hb dX3_countWays_23 ?_
        obtain ⟨g32, eg32, ig32, hf⟩ := stIE hf
        refine k_iast hx hb hK hP hD hS 1 0 rfl rfl ig32 eg32 dX3_countWays_24 (fun H locs hP hD hS => ?_)
        have hP : va_P D vwCl [(q_t, .inr (3, [.int t_hours, .int t_number, .ref q_t_needs, .ref q_t_apartFrom, .ref q_t_togetherWith])), (q_t_apartFrom, .inl (G 0, 6, .inl g32)), (q_t_togetherWith, .inl (G 0, 6, .inl w20))] H := hP
        have hD : va_D A [(q_t, .inr (3, [.int t_hours, .int t_number, .ref q_t_needs, .ref q_t_apartFrom, .ref q_t_togetherWith])), (q_t_apartFrom, .inl (G 0, 6, .inl g32)), (q_t_togetherWith, .inl (G 0, 6, .inl w20))] := hD
        refine lv_aload_n hx hb dX3_countWays_25 rfl (lv_at hl 0 rfl) ?_
        refine va_get (D := D) (ci := 3) (v := .ref q_t_togetherWith) (C := RX3) (T := TX3) (N := 5) hx hb hts inX3 hown hK hP 0 rfl rfl 4 (by decide) (hts _ lfX3_18) (fun _ h9 => h9) rfl dX3_countWays_26 ?_
        refine lv_iload hx hb dX3_countWays_29 (lv_at hl 5 rfl) ?_
        refine lv_iload hx hb dX3_countWays_31 (lv_at hl 5 rfl) ?_
        refine lv_iload_n hx hb dX3_countWays_33 rfl (lv_at hl 3 rfl) ?_
        obtain ⟨r33, h34, hf⟩ := bd1E hf
        refine kO_stat hx hb hml hown hts hK hn hP (kX3_partnersBefore l D G fu w18 v3 h34) csX3_69 ⟨Nat.le_of_ble_eq_true rfl, Nat.le_of_ble_eq_true rfl⟩ [] rfl rfl hl.1 rfl (Nat.le_of_ble_eq_true rfl) ⟨Nat.zero_le _, Nat.zero_le _⟩ dX3_countWays_34 ?_
        refine lv_iload_n hx hb dX3_countWays_37 rfl (lv_at hl 1 rfl) ?_
        refine lv_iand hx hb dX3_countWays_38 ?_
        obtain ⟨g35, eg35, ig35, hf⟩ := stIE hf
        refine k_iast hx hb hK hP hD hS 2 0 rfl rfl ig35 eg35 dX3_countWays_39 (fun H locs hP hD hS => ?_)
        have hP : va_P D vwCl [(q_t, .inr (3, [.int t_hours, .int t_number, .ref q_t_needs, .ref q_t_apartFrom, .ref q_t_togetherWith])), (q_t_apartFrom, .inl (G 0, 6, .inl g32)), (q_t_togetherWith, .inl (G 0, 6, .inl g35))] H := hP
        have hD : va_D A [(q_t, .inr (3, [.int t_hours, .int t_number, .ref q_t_needs, .ref q_t_apartFrom, .ref q_t_togetherWith])), (q_t_apartFrom, .inl (G 0, 6, .inl g32)), (q_t_togetherWith, .inl (G 0, 6, .inl g35))] := hD
        obtain ⟨y36, ey36⟩ : ∃ y : Int32, y = w18 + (1 : Int32) := ⟨_, rfl⟩
        have hf := nmeU ey36 hf
        refine lv_iinc (v := y36) (lv' := [(5, .int y36), (0, .ref q_t), (1, .int v1), (2, .int v2), (3, .int v3), (4, .int v4)]) hx hb dX3_countWays_40 hl (k := 5) rfl (by rw [ey36]; rfl) (by decide) rfl (fun ls hl => ?_)
        refine lv_goto (tgt := 3) hx hb dX3_countWays_43 (by decide) ?_
        exact ih _ _ _ hf H locs hP hD hS ls (lv_sub hl [1, 2, 3, 4, 5, 0] rfl)
  exact L24 fu (0 : Int32) t_apartFrom t_togetherWith h26 H locs hP hD hS ls (lv_sub hl [1, 2, 3, 4, 5, 0] rfl)
set_option maxHeartbeats 4000000 in
set_option maxRecDepth 100000 in
theorem kX3_needOf (l : Launch) (D : va_G) (G : Nat → ClassId) (fu : Nat) (q_p0 q_p0_ills q_p0_roomOf q_p0_effects q_p0_badFor q_p0_likes q_p0_sights : Nat) (p0_there : Int32) (p0_sat : Int32) (p0_hour : Int32) (p0_ills : Nat → Int32) (p0_effects : Nat → Int32) (p0_badFor : Nat → Int32) (v1 : Int32) (v2 : Int32) {r : Int32} (hf : fX3_needOf fu p0_ills p0_effects p0_badFor v1 v2 = some r) : rO l D G yX3_needOf cX3_needOf 5 (some .int) 3 112 [.ref q_p0, .int v1, .int v2] [(q_p0, .inr (1, [.int p0_there, .int p0_sat, .int p0_hour, .ref q_p0_ills, .ref q_p0_roomOf, .ref q_p0_effects, .ref q_p0_badFor, .ref q_p0_likes, .ref q_p0_sights])), (q_p0_ills, .inl (G 0, 18, .inl p0_ills)), (q_p0_effects, .inl (G 0, 12, .inl p0_effects)), (q_p0_badFor, .inl (G 0, 36, .inl p0_badFor))] (some (.int r)) := by
  refine rO_of (by decide) (Nat.le_of_ble_eq_true rfl) ?_
  intro p e s m args below meth c Q hx hb hml hown hts hK hn hP RET ls hl
  have RT : ∀ (a0_ : Int32), some a0_ = some r → ∀ (pc : Nat) (ls : Array Slot) (ins : Instr), decode cX3_needOf pc = .ok (ins, 1) → rk (some .int) (some (.int a0_)) ins → W p l e (kR 3 112) s m args below meth c s.heap [] 0 0 Q (F0 m pc ls [.int a0_]) := by
    intro a0_ hy; obtain rfl := sm1 hy
    exact RET
  have hown : s.vm.findClass RX3 = some m.cls := hown
  have hl : lv_has ls 5 [(0, .ref q_p0), (1, .int v1), (2, .int v2)] := hl
  clear RET
  rw [fX3_needOf] at hf
  refine lv_iconst (v := (0 : Int32)) hx hb dX3_needOf_0 (by decide) ?_
  refine lv_istore_n (lv' := [(3, .int (0 : Int32)), (0, .ref q_p0), (1, .int v1), (2, .int v2)]) hx hb dX3_needOf_1 rfl hl (by decide) rfl (fun ls hl => ?_)
  refine lv_iconst (v := (0 : Int32)) hx hb dX3_needOf_2 (by decide) ?_
  refine lv_istore (lv' := [(4, .int (0 : Int32)), (3, .int (0 : Int32)), (0, .ref q_p0), (1, .int v1), (2, .int v2)]) hx hb dX3_needOf_3 hl (by decide) rfl (fun ls hl => ?_)
  obtain ⟨u27, h31, hf⟩ := bd1E hf
  have E28 : ∀ (z48 : Int32), some z48 = some u27 → ∀ ls : Array Slot, lv_has ls 5 [(3, .int z48)] → W p l e (kR 3 112) s m args below meth c s.heap [] 0 0 Q (F0 m 41 ls []) := by
    intro z48 hy; obtain rfl := sm1 hy
    intro ls hl
    refine lv_iload_n hx hb dX3_needOf_41 rfl (lv_at hl 0 rfl) ?_
    exact RT _ hf _ _ _ dX3_needOf_42 (rkI _)
  have L29 : ∀ (k : Nat) (w25 : Int32) (w26 : Int32), fX3_needOf_5 fu v2 p0_ills p0_effects p0_badFor v1 k w25 w26 = some u27 → ∀ ls : Array Slot, lv_has ls 5 [(0, .ref q_p0), (1, .int v1), (2, .int v2), (3, .int w25), (4, .int w26)] → W p l e (kR 3 112) s m args below meth c s.heap [] 0 0 Q (F0 m 5 ls []) := by
    intro k; induction k with
    | zero => intro w25 w26 hf; exact nosome hf
    | succ k ih =>
      intro w25 w26 hf; rw [fX3_needOf_5] at hf
      intro ls hl
      refine lv_iload hx hb dX3_needOf_5 (lv_at hl 4 rfl) ?_
      refine lv_bipush (v := (6 : Int32)) hx hb dX3_needOf_7 (by decide) ?_
      refine lv_icmp_ge (tgt := 41) hx hb dX3_needOf_9 (by decide) (fun c34 => ?_) (fun c34 => ?_)
      · have hf := ifp c34 hf
        exact E28 _ hf ls (lv_sub hl [3] rfl)
      · have hf := ifn c34 hf
        refine lv_iload_n hx hb dX3_needOf_12 rfl (lv_at hl 2 rfl) ?_
        refine lv_iload hx hb dX3_needOf_13 (lv_at hl 4 rfl) ?_
        refine lv_ishr hx hb dX3_needOf_15 ?_
        refine lv_iconst (v := (1 : Int32)) hx hb dX3_needOf_16 (by decide) ?_
        refine lv_iand hx hb dX3_needOf_17 ?_
        refine lv_iconst (v := (1 : Int32)) hx hb dX3_needOf_18 (by decide) ?_
        obtain ⟨j39, h47, hf⟩ := bd1E hf
        have E42 : ∀ (z40 : Int32), some z40 = some j39 → ∀ ls : Array Slot, lv_has ls 5 [(0, .ref q_p0), (1, .int v1), (2, .int v2), (3, .int z40), (4, .int w26)] → W p l e (kR 3 112) s m args below meth c s.heap [] 0 0 Q (F0 m 35 ls []) := by
          intro z40 hy; obtain rfl := sm1 hy
          intro ls hl
          obtain ⟨y41, ey41⟩ : ∃ y : Int32, y = w26 + (1 : Int32) := ⟨_, rfl⟩
          have hf := nmeU ey41 hf
          refine lv_iinc (v := y41) (lv' := [(4, .int y41), (0, .ref q_p0), (1, .int v1), (2, .int v2), (3, .int z40)]) hx hb dX3_needOf_35 hl (k := 4) rfl (by rw [ey41]; rfl) (by decide) rfl (fun ls hl => ?_)
          refine lv_goto (tgt := 5) hx hb dX3_needOf_38 (by decide) ?_
          exact ih _ _ hf ls (lv_sub hl [1, 2, 3, 4, 0] rfl)
        have hf := h47
        refine lv_icmp_ne (tgt := 35) hx hb dX3_needOf_19 (by decide) (fun c43 => ?_) (fun c43 => ?_)
        · have hf := ifn c43 hf
          exact E42 _ hf ls (lv_sub hl [0, 1, 2, 3, 4] rfl)
        · have hf := ifp c43 hf
          refine lv_iload_n hx hb dX3_needOf_22 rfl (lv_at hl 3 rfl) ?_
          refine lv_aload_n hx hb dX3_needOf_23 rfl (lv_at hl 0 rfl) ?_
          refine lv_iload hx hb dX3_needOf_24 (lv_at hl 4 rfl) ?_
          refine lv_iload_n hx hb dX3_needOf_26 rfl (lv_at hl 1 rfl) ?_
          refine lv_iload_n hx hb dX3_needOf_27 rfl (lv_at hl 2 rfl) ?_
          obtain ⟨r44, h45, hf⟩ := bd1E hf
          refine kO_virt hx hb hml hown hts hK hn hP (kX1_hoursToLoseAll l D G fu q_p0 q_p0_ills q_p0_roomOf q_p0_effects q_p0_badFor q_p0_likes q_p0_sights p0_there p0_sat p0_hour p0_ills p0_effects p0_badFor w26 v1 v2 h45) cvX3_49 ⟨Nat.le_of_ble_eq_true rfl, Nat.le_of_ble_eq_true rfl⟩ [0, 1, 2, 3] rfl 0 rfl rfl rfl hl.1 rfl (Nat.le_of_ble_eq_true rfl) ⟨Nat.zero_le _, Nat.zero_le _⟩ dX3_needOf_28 ?_
          refine va_mmax hx hb (hml.trans hl.1.symm) hown (hts _ lmX3_53) (hts _ ks_max_int) (hts _ niJ9) (hts _ kc_max_int) (Nat.le_of_ble_eq_true rfl) (Nat.le_of_ble_eq_true rfl) (Nat.le_of_ble_eq_true rfl) (Nat.le_of_ble_eq_true rfl) dX3_needOf_31 ?_
          refine lv_topi (fun y46 ey46 => ?_)
          have hf := nmeU ey46 hf
          refine lv_istore_n (lv' := [(3, .int y46), (0, .ref q_p0), (1, .int v1), (2, .int v2), (4, .int w26)]) hx hb dX3_needOf_34 rfl hl (by decide) rfl (fun ls hl => ?_)
          exact E42 _ hf ls (lv_sub hl [1, 2, 3, 0, 4] rfl)
  exact L29 fu (0 : Int32) (0 : Int32) h31 ls (lv_sub hl [2, 3, 4, 1, 0] rfl)
set_option maxHeartbeats 4000000 in
set_option maxRecDepth 100000 in
theorem kX3_weighNeeds (l : Launch) (D : va_G) (G : Nat → ClassId) (fu : Nat) (q_t q_p1 q_t_needs q_t_apartFrom q_t_togetherWith q_p1_ills q_p1_roomOf q_p1_effects q_p1_badFor q_p1_likes q_p1_sights : Nat) (t_hours : Int32) (t_number : Int32) (t_needs : Nat → Int32) (p1_there : Int32) (p1_sat : Int32) (p1_hour : Int32) (p1_ills : Nat → Int32) (p1_effects : Nat → Int32) (p1_badFor : Nat → Int32) {o_t_needs : Nat → Int32} (hf : fX3_weighNeeds fu t_needs p1_there p1_ills p1_effects p1_badFor = some o_t_needs) : rW l D G yX3_weighNeeds cX3_weighNeeds 5 none 4 136 [.ref q_t, .ref q_p1] [(q_t, .inr (3, [.int t_hours, .int t_number, .ref q_t_needs, .ref q_t_apartFrom, .ref q_t_togetherWith])), (q_t_needs, .inl (G 0, 256, .inl t_needs)), (q_p1, .inr (1, [.int p1_there, .int p1_sat, .int p1_hour, .ref q_p1_ills, .ref q_p1_roomOf, .ref q_p1_effects, .ref q_p1_badFor, .ref q_p1_likes, .ref q_p1_sights])), (q_p1_ills, .inl (G 0, 18, .inl p1_ills)), (q_p1_effects, .inl (G 0, 12, .inl p1_effects)), (q_p1_badFor, .inl (G 0, 36, .inl p1_badFor))] [(q_t, .inr (3, [.int t_hours, .int t_number, .ref q_t_needs, .ref q_t_apartFrom, .ref q_t_togetherWith])), (q_t_needs, .inl (G 0, 256, .inl o_t_needs)), (q_p1, .inr (1, [.int p1_there, .int p1_sat, .int p1_hour, .ref q_p1_ills, .ref q_p1_roomOf, .ref q_p1_effects, .ref q_p1_badFor, .ref q_p1_likes, .ref q_p1_sights])), (q_p1_ills, .inl (G 0, 18, .inl p1_ills)), (q_p1_effects, .inl (G 0, 12, .inl p1_effects)), (q_p1_badFor, .inl (G 0, 36, .inl p1_badFor))] none := by
  refine rW_of (by decide) (Nat.le_of_ble_eq_true rfl) ?_
  intro p e s m args below meth c Q A hx hb hml hown hts hK hn hA RET H locs hP hD hS ls hl
  have RT : ∀ (a0_ : Nat → Int32), some a0_ = some o_t_needs → ∀ (pc : Nat) (ls : Array Slot) (ins : Instr) (H : Heap) (locs : List Loc), decode cX3_weighNeeds pc = .ok (ins, 1) → rk none none ins → va_P D vwCl [(q_t, .inr (3, [.int t_hours, .int t_number, .ref q_t_needs, .ref q_t_apartFrom, .ref q_t_togetherWith])), (q_t_needs, .inl (G 0, 256, .inl a0_)), (q_p1, .inr (1, [.int p1_there, .int p1_sat, .int p1_hour, .ref q_p1_ills, .ref q_p1_roomOf, .ref q_p1_effects, .ref q_p1_badFor, .ref q_p1_likes, .ref q_p1_sights])), (q_p1_ills, .inl (G 0, 18, .inl p1_ills)), (q_p1_effects, .inl (G 0, 12, .inl p1_effects)), (q_p1_badFor, .inl (G 0, 36, .inl p1_badFor))] H → va_D A [(q_t, .inr (3, [.int t_hours, .int t_number, .ref q_t_needs, .ref q_t_apartFrom, .ref q_t_togetherWith])), (q_t_needs, .inl (G 0, 256, .inl a0_)), (q_p1, .inr (1, [.int p1_there, .int p1_sat, .int p1_hour, .ref q_p1_ills, .ref q_p1_roomOf, .ref q_p1_effects, .ref q_p1_badFor, .ref q_p1_likes, .ref q_p1_sights])), (q_p1_ills, .inl (G 0, 18, .inl p1_ills)), (q_p1_effects, .inl (G 0, 12, .inl p1_effects)), (q_p1_badFor, .inl (G 0, 36, .inl p1_badFor))] → va_S A s.heap H locs → W p l e (kR 4 136) s m args below meth c H locs 0 0 Q (F0 m pc ls []) := by
    intro a0_ hy; obtain rfl := sm1 hy
    exact RET
  have hown : s.vm.findClass RX3 = some m.cls := hown
  have hl : lv_has ls 5 [(0, .ref q_t), (1, .ref q_p1)] := hl
  clear RET
  rw [fX3_weighNeeds] at hf
  refine lv_aload_n hx hb dX3_weighNeeds_0 rfl (lv_at hl 1 rfl) ?_
  obtain ⟨r1, h2, hf⟩ := bd1E hf
  refine kO_virt hx hb hml hown hts hK hn hP (kX1_wellPieces l D G fu q_p1 q_p1_ills q_p1_roomOf q_p1_effects q_p1_badFor q_p1_likes q_p1_sights p1_there p1_sat p1_hour p1_ills h2) cvX3_41 ⟨Nat.le_of_ble_eq_true rfl, Nat.le_of_ble_eq_true rfl⟩ [2, 3] rfl 2 rfl rfl rfl hl.1 rfl (Nat.le_of_ble_eq_true rfl) ⟨Nat.zero_le _, Nat.zero_le _⟩ dX3_weighNeeds_1 ?_
  refine lv_aload_n hx hb dX3_weighNeeds_4 rfl (lv_at hl 1 rfl) ?_
  refine va_get (D := D) (ci := 1) (v := .int p1_there) (C := RX1) (T := TX1) (N := 9) hx hb hts inX1 hown hK hP 2 rfl rfl 0 (by decide) (hts _ lfX3_32) (fun _ h9 => h9) rfl dX3_weighNeeds_5 ?_
  obtain ⟨j4, h197, hf⟩ := bd1E hf
  have E195 : ∀ (z5 : Int32), some z5 = some j4 → ∀ (H : Heap) (locs : List Loc), va_P D vwCl [(q_t, .inr (3, [.int t_hours, .int t_number, .ref q_t_needs, .ref q_t_apartFrom, .ref q_t_togetherWith])), (q_t_needs, .inl (G 0, 256, .inl t_needs)), (q_p1, .inr (1, [.int p1_there, .int p1_sat, .int p1_hour, .ref q_p1_ills, .ref q_p1_roomOf, .ref q_p1_effects, .ref q_p1_badFor, .ref q_p1_likes, .ref q_p1_sights])), (q_p1_ills, .inl (G 0, 18, .inl p1_ills)), (q_p1_effects, .inl (G 0, 12, .inl p1_effects)), (q_p1_badFor, .inl (G 0, 36, .inl p1_badFor))] H → va_D A [(q_t, .inr (3, [.int t_hours, .int t_number, .ref q_t_needs, .ref q_t_apartFrom, .ref q_t_togetherWith])), (q_t_needs, .inl (G 0, 256, .inl t_needs)), (q_p1, .inr (1, [.int p1_there, .int p1_sat, .int p1_hour, .ref q_p1_ills, .ref q_p1_roomOf, .ref q_p1_effects, .ref q_p1_badFor, .ref q_p1_likes, .ref q_p1_sights])), (q_p1_ills, .inl (G 0, 18, .inl p1_ills)), (q_p1_effects, .inl (G 0, 12, .inl p1_effects)), (q_p1_badFor, .inl (G 0, 36, .inl p1_badFor))] → va_S A s.heap H locs → ∀ ls : Array Slot, lv_has ls 5 [(0, .ref q_t), (1, .ref q_p1)] → W p l e (kR 4 136) s m args below meth c H locs 0 0 Q (F0 m 16 ls [.int z5]) := by
    intro z5 hy; obtain rfl := sm1 hy
    intro H locs hP hD hS ls hl
    refine lv_istore_n (lv' := [(2, .int z5), (0, .ref q_t), (1, .ref q_p1)]) hx hb dX3_weighNeeds_16 rfl hl (by decide) rfl (fun ls hl => ?_)
    refine lv_iconst (v := (0 : Int32)) hx hb dX3_weighNeeds_17 (by decide) ?_
    refine lv_istore_n (lv' := [(3, .int (0 : Int32)), (2, .int z5), (0, .ref q_t), (1, .ref q_p1)]) hx hb dX3_weighNeeds_18 rfl hl (by decide) rfl (fun ls hl => ?_)
    obtain ⟨u103, h107, hf⟩ := bd1E hf
    have E104 : ∀ (z194 : Nat → Int32), some z194 = some u103 → ∀ (H : Heap) (locs : List Loc), va_P D vwCl [(q_t, .inr (3, [.int t_hours, .int t_number, .ref q_t_needs, .ref q_t_apartFrom, .ref q_t_togetherWith])), (q_t_needs, .inl (G 0, 256, .inl z194)), (q_p1, .inr (1, [.int p1_there, .int p1_sat, .int p1_hour, .ref q_p1_ills, .ref q_p1_roomOf, .ref q_p1_effects, .ref q_p1_badFor, .ref q_p1_likes, .ref q_p1_sights])), (q_p1_ills, .inl (G 0, 18, .inl p1_ills)), (q_p1_effects, .inl (G 0, 12, .inl p1_effects)), (q_p1_badFor, .inl (G 0, 36, .inl p1_badFor))] H → va_D A [(q_t, .inr (3, [.int t_hours, .int t_number, .ref q_t_needs, .ref q_t_apartFrom, .ref q_t_togetherWith])), (q_t_needs, .inl (G 0, 256, .inl z194)), (q_p1, .inr (1, [.int p1_there, .int p1_sat, .int p1_hour, .ref q_p1_ills, .ref q_p1_roomOf, .ref q_p1_effects, .ref q_p1_badFor, .ref q_p1_likes, .ref q_p1_sights])), (q_p1_ills, .inl (G 0, 18, .inl p1_ills)), (q_p1_effects, .inl (G 0, 12, .inl p1_effects)), (q_p1_badFor, .inl (G 0, 36, .inl p1_badFor))] → va_S A s.heap H locs → ∀ ls : Array Slot, lv_has ls 5 [] → W p l e (kR 4 136) s m args below meth c H locs 0 0 Q (F0 m 85 ls []) := by
      intro z194 hy; obtain rfl := sm1 hy
      intro H locs hP hD hS ls hl
      exact RT _ hf _ _ _ H locs dX3_weighNeeds_85 rkV hP hD hS
    have L105 : ∀ (k : Nat) (w101 : Int32) (w102 : Nat → Int32), fX3_weighNeeds_19 fu p1_there z5 p1_ills p1_effects p1_badFor k w101 w102 = some u103 → ∀ (H : Heap) (locs : List Loc), va_P D vwCl [(q_t, .inr (3, [.int t_hours, .int t_number, .ref q_t_needs, .ref q_t_apartFrom, .ref q_t_togetherWith])), (q_t_needs, .inl (G 0, 256, .inl w102)), (q_p1, .inr (1, [.int p1_there, .int p1_sat, .int p1_hour, .ref q_p1_ills, .ref q_p1_roomOf, .ref q_p1_effects, .ref q_p1_badFor, .ref q_p1_likes, .ref q_p1_sights])), (q_p1_ills, .inl (G 0, 18, .inl p1_ills)), (q_p1_effects, .inl (G 0, 12, .inl p1_effects)), (q_p1_badFor, .inl (G 0, 36, .inl p1_badFor))] H → va_D A [(q_t, .inr (3, [.int t_hours, .int t_number, .ref q_t_needs, .ref q_t_apartFrom, .ref q_t_togetherWith])), (q_t_needs, .inl (G 0, 256, .inl w102)), (q_p1, .inr (1, [.int p1_there, .int p1_sat, .int p1_hour, .ref q_p1_ills, .ref q_p1_roomOf, .ref q_p1_effects, .ref q_p1_badFor, .ref q_p1_likes, .ref q_p1_sights])), (q_p1_ills, .inl (G 0, 18, .inl p1_ills)), (q_p1_effects, .inl (G 0, 12, .inl p1_effects)), (q_p1_badFor, .inl (G 0, 36, .inl p1_badFor))] → va_S A s.heap H locs → ∀ ls : Array Slot, lv_has ls 5 [(0, .ref q_t), (1, .ref q_p1), (2, .int z5), (3, .int w101)] → W p l e (kR 4 136) s m args below meth c H locs 0 0 Q (F0 m 19 ls []) := by
      intro k; induction k with
      | zero => intro w101 w102 hf; exact nosome hf
      | succ k ih =>
        intro w101 w102 hf; rw [fX3_weighNeeds_19] at hf
        intro H locs hP hD hS ls hl
        refine lv_iload_n hx hb dX3_weighNeeds_19 rfl (lv_at hl 3 rfl) ?_
        refine lv_iconst (v := (4 : Int32)) hx hb dX3_weighNeeds_20 (by decide) ?_
        refine lv_icmp_ge (tgt := 85) hx hb dX3_weighNeeds_21 (by decide) (fun c110 => ?_) (fun c110 => ?_)
        · have hf := ifp c110 hf
          exact E104 _ hf H locs hP hD hS ls (lv_sub hl [] rfl)
        · have hf := ifn c110 hf
          refine lv_iconst (v := (0 : Int32)) hx hb dX3_weighNeeds_24 (by decide) ?_
          refine lv_istore (lv' := [(4, .int (0 : Int32)), (0, .ref q_t), (1, .ref q_p1), (2, .int z5), (3, .int w101)]) hx hb dX3_weighNeeds_25 hl (by decide) rfl (fun ls hl => ?_)
          obtain ⟨u155, h159, hf⟩ := bd1E hf
          have E156 : ∀ (z192 : Nat → Int32), some z192 = some u155 → ∀ (H : Heap) (locs : List Loc), va_P D vwCl [(q_t, .inr (3, [.int t_hours, .int t_number, .ref q_t_needs, .ref q_t_apartFrom, .ref q_t_togetherWith])), (q_t_needs, .inl (G 0, 256, .inl z192)), (q_p1, .inr (1, [.int p1_there, .int p1_sat, .int p1_hour, .ref q_p1_ills, .ref q_p1_roomOf, .ref q_p1_effects, .ref q_p1_badFor, .ref q_p1_likes, .ref q_p1_sights])), (q_p1_ills, .inl (G 0, 18, .inl p1_ills)), (q_p1_effects, .inl (G 0, 12, .inl p1_effects)), (q_p1_badFor, .inl (G 0, 36, .inl p1_badFor))] H → va_D A [(q_t, .inr (3, [.int t_hours, .int t_number, .ref q_t_needs, .ref q_t_apartFrom, .ref q_t_togetherWith])), (q_t_needs, .inl (G 0, 256, .inl z192)), (q_p1, .inr (1, [.int p1_there, .int p1_sat, .int p1_hour, .ref q_p1_ills, .ref q_p1_roomOf, .ref q_p1_effects, .ref q_p1_badFor, .ref q_p1_likes, .ref q_p1_sights])), (q_p1_ills, .inl (G 0, 18, .inl p1_ills)), (q_p1_effects, .inl (G 0, 12, .inl p1_effects)), (q_p1_badFor, .inl (G 0, 36, .inl p1_badFor))] → va_S A s.heap H locs → ∀ ls : Array Slot, lv_has ls 5 [(0, .ref q_t), (1, .ref q_p1), (2, .int z5), (3, .int w101)] → W p l e (kR 4 136) s m args below meth c H locs 0 0 Q (F0 m 79 ls []) := by
            intro z192 hy; obtain rfl := sm1 hy
            intro H locs hP hD hS ls hl
            obtain ⟨y193, ey193⟩ : ∃ y : Int32, y = w101 + (1 : Int32) := ⟨_, rfl⟩
            have hf := nmeU ey193 hf
            refine lv_iinc (v := y193) (lv' := [(3, .int y193), (0, .ref q_t), (1, .ref q_p1), (2, .int z5)]) hx hb dX3_weighNeeds_79 hl (k := 3) rfl (by rw [ey193]; rfl) (by decide) rfl (fun ls hl => ?_)
            refine lv_goto (tgt := 19) hx hb dX3_weighNeeds_82 (by decide) ?_
            exact ih _ _ hf H locs hP hD hS ls (lv_sub hl [1, 2, 3, 0] rfl)
          have L157 : ∀ (k : Nat) (w153 : Int32) (w154 : Nat → Int32), fX3_weighNeeds_27 fu p1_there z5 p1_ills p1_effects p1_badFor w101 k w153 w154 = some u155 → ∀ (H : Heap) (locs : List Loc), va_P D vwCl [(q_t, .inr (3, [.int t_hours, .int t_number, .ref q_t_needs, .ref q_t_apartFrom, .ref q_t_togetherWith])), (q_t_needs, .inl (G 0, 256, .inl w154)), (q_p1, .inr (1, [.int p1_there, .int p1_sat, .int p1_hour, .ref q_p1_ills, .ref q_p1_roomOf, .ref q_p1_effects, .ref q_p1_badFor, .ref q_p1_likes, .ref q_p1_sights])), (q_p1_ills, .inl (G 0, 18, .inl p1_ills)), (q_p1_effects, .inl (G 0, 12, .inl p1_effects)), (q_p1_badFor, .inl (G 0, 36, .inl p1_badFor))] H → va_D A [(q_t, .inr (3, [.int t_hours, .int t_number, .ref q_t_needs, .ref q_t_apartFrom, .ref q_t_togetherWith])), (q_t_needs, .inl (G 0, 256, .inl w154)), (q_p1, .inr (1, [.int p1_there, .int p1_sat, .int p1_hour, .ref q_p1_ills, .ref q_p1_roomOf, .ref q_p1_effects, .ref q_p1_badFor, .ref q_p1_likes, .ref q_p1_sights])), (q_p1_ills, .inl (G 0, 18, .inl p1_ills)), (q_p1_effects, .inl (G 0, 12, .inl p1_effects)), (q_p1_badFor, .inl (G 0, 36, .inl p1_badFor))] → va_S A s.heap H locs → ∀ ls : Array Slot, lv_has ls 5 [(0, .ref q_t), (1, .ref q_p1), (2, .int z5), (3, .int w101), (4, .int w153)] → W p l e (kR 4 136) s m args below meth c H locs 0 0 Q (F0 m 27 ls []) := by
            intro k; induction k with
            | zero => intro w153 w154 hf; exact nosome hf
            | succ k ih =>
              intro w153 w154 hf; rw [fX3_weighNeeds_27] at hf
              intro H locs hP hD hS ls hl
              refine lv_iload hx hb dX3_weighNeeds_27 (lv_at hl 4 rfl) ?_
              refine lv_bipush (v := (64 : Int32)) hx hb dX3_weighNeeds_29 (by decide) ?_
              refine lv_icmp_ge (tgt := 79) hx hb dX3_weighNeeds_31 (by decide) (fun c162 => ?_) (fun c162 => ?_)
              · have hf := ifp c162 hf
                exact E156 _ hf H locs hP hD hS ls (lv_sub hl [0, 1, 2, 3] rfl)
              · have hf := ifn c162 hf
                refine lv_iload hx hb dX3_weighNeeds_34 (lv_at hl 4 rfl) ?_
                refine lv_aload_n hx hb dX3_weighNeeds_36 rfl (lv_at hl 1 rfl) ?_
                refine va_get (D := D) (ci := 1) (v := .int p1_there) (C := RX1) (T := TX1) (N := 9) hx hb hts inX1 hown hK hP 2 rfl rfl 0 (by decide) (hts _ lfX3_32) (fun _ h9 => h9) rfl dX3_weighNeeds_37 ?_
                refine lv_iconst (v := (-1 : Int32)) hx hb dX3_weighNeeds_40 (by decide) ?_
                refine lv_ixor hx hb dX3_weighNeeds_41 ?_
                refine lv_iand hx hb dX3_weighNeeds_42 ?_
                obtain ⟨j175, h191, hf⟩ := bd1E hf
                have E178 : ∀ (z176 : Nat → Int32), some z176 = some j175 → ∀ (H : Heap) (locs : List Loc), va_P D vwCl [(q_t, .inr (3, [.int t_hours, .int t_number, .ref q_t_needs, .ref q_t_apartFrom, .ref q_t_togetherWith])), (q_t_needs, .inl (G 0, 256, .inl z176)), (q_p1, .inr (1, [.int p1_there, .int p1_sat, .int p1_hour, .ref q_p1_ills, .ref q_p1_roomOf, .ref q_p1_effects, .ref q_p1_badFor, .ref q_p1_likes, .ref q_p1_sights])), (q_p1_ills, .inl (G 0, 18, .inl p1_ills)), (q_p1_effects, .inl (G 0, 12, .inl p1_effects)), (q_p1_badFor, .inl (G 0, 36, .inl p1_badFor))] H → va_D A [(q_t, .inr (3, [.int t_hours, .int t_number, .ref q_t_needs, .ref q_t_apartFrom, .ref q_t_togetherWith])), (q_t_needs, .inl (G 0, 256, .inl z176)), (q_p1, .inr (1, [.int p1_there, .int p1_sat, .int p1_hour, .ref q_p1_ills, .ref q_p1_roomOf, .ref q_p1_effects, .ref q_p1_badFor, .ref q_p1_likes, .ref q_p1_sights])), (q_p1_ills, .inl (G 0, 18, .inl p1_ills)), (q_p1_effects, .inl (G 0, 12, .inl p1_effects)), (q_p1_badFor, .inl (G 0, 36, .inl p1_badFor))] → va_S A s.heap H locs → ∀ ls : Array Slot, lv_has ls 5 [(0, .ref q_t), (1, .ref q_p1), (2, .int z5), (3, .int w101), (4, .int w153)] → W p l e (kR 4 136) s m args below meth c H locs 0 0 Q (F0 m 73 ls []) := by
                  intro z176 hy; obtain rfl := sm1 hy
                  intro H locs hP hD hS ls hl
                  obtain ⟨y177, ey177⟩ : ∃ y : Int32, y = w153 + (1 : Int32) := ⟨_, rfl⟩
                  have hf := nmeU ey177 hf
                  refine lv_iinc (v := y177) (lv' := [(4, .int y177), (0, .ref q_t), (1, .ref q_p1), (2, .int z5), (3, .int w101)]) hx hb dX3_weighNeeds_73 hl (k := 4) rfl (by rw [ey177]; rfl) (by decide) rfl (fun ls hl => ?_)
                  refine lv_goto (tgt := 27) hx hb dX3_weighNeeds_76 (by decide) ?_
                  exact ih _ _ hf H locs hP hD hS ls (lv_sub hl [1, 2, 3, 4, 0] rfl)
                have hf := h191
                refine lv_if_ne (tgt := 73) hx hb dX3_weighNeeds_43 (by decide) (fun c179 => ?_) (fun c179 => ?_)
                · have hf := ifn c179 hf
                  exact E178 _ hf H locs hP hD hS ls (lv_sub hl [0, 1, 2, 3, 4] rfl)
                · have hf := ifp c179 hf
                  refine lv_aload_n hx hb dX3_weighNeeds_46 rfl (lv_at hl 0 rfl) ?_
                  refine va_get (D := D) (ci := 3) (v := .ref q_t_needs) (C := RX3) (T := TX3) (N := 5) hx hb hts inX3 hown hK hP 0 rfl rfl 2 (by decide) (hts _ lfX3_9) (fun _ h9 => h9) rfl dX3_weighNeeds_47 ?_
                  refine lv_iload_n hx hb dX3_weighNeeds_50 rfl (lv_at hl 3 rfl) ?_
                  refine lv_bipush (v := (64 : Int32)) hx hb dX3_weighNeeds_51 (by decide) ?_
                  refine lv_imul hx hb dX3_weighNeeds_53 ?_
                  refine lv_iload hx hb dX3_weighNeeds_54 (lv_at hl 4 rfl) ?_
                  refine lv_iadd hx hb dX3_weighNeeds_56 ?_
                  refine lv_iload_n hx hb dX3_weighNeeds_57 rfl (lv_at hl 2 rfl) ?_
                  obtain ⟨j183, h190, hf⟩ := bd1E hf
                  have E186 : ∀ (z184 : Int32), some z184 = some j183 → ∀ (H : Heap) (locs : List Loc), va_P D vwCl [(q_t, .inr (3, [.int t_hours, .int t_number, .ref q_t_needs, .ref q_t_apartFrom, .ref q_t_togetherWith])), (q_t_needs, .inl (G 0, 256, .inl w154)), (q_p1, .inr (1, [.int p1_there, .int p1_sat, .int p1_hour, .ref q_p1_ills, .ref q_p1_roomOf, .ref q_p1_effects, .ref q_p1_badFor, .ref q_p1_likes, .ref q_p1_sights])), (q_p1_ills, .inl (G 0, 18, .inl p1_ills)), (q_p1_effects, .inl (G 0, 12, .inl p1_effects)), (q_p1_badFor, .inl (G 0, 36, .inl p1_badFor))] H → va_D A [(q_t, .inr (3, [.int t_hours, .int t_number, .ref q_t_needs, .ref q_t_apartFrom, .ref q_t_togetherWith])), (q_t_needs, .inl (G 0, 256, .inl w154)), (q_p1, .inr (1, [.int p1_there, .int p1_sat, .int p1_hour, .ref q_p1_ills, .ref q_p1_roomOf, .ref q_p1_effects, .ref q_p1_badFor, .ref q_p1_likes, .ref q_p1_sights])), (q_p1_ills, .inl (G 0, 18, .inl p1_ills)), (q_p1_effects, .inl (G 0, 12, .inl p1_effects)), (q_p1_badFor, .inl (G 0, 36, .inl p1_badFor))] → va_S A s.heap H locs → ∀ ls : Array Slot, lv_has ls 5 [(0, .ref q_t), (1, .ref q_p1), (2, .int z5), (3, .int w101), (4, .int w153)] → W p l e (kR 4 136) s m args below meth c H locs 0 0 Q (F0 m 72 ls [.int z184, .int ((w101 * (64 : Int32)) + w153), .ref q_t_needs]) := by
                    intro z184 hy; obtain rfl := sm1 hy
                    intro H locs hP hD hS ls hl
                    obtain ⟨g185, eg185, ig185, hf⟩ := stIE hf
                    refine k_iast hx hb hK hP hD hS 1 0 rfl rfl ig185 eg185 dX3_weighNeeds_72 (fun H locs hP hD hS => ?_)
                    have hP : va_P D vwCl [(q_t, .inr (3, [.int t_hours, .int t_number, .ref q_t_needs, .ref q_t_apartFrom, .ref q_t_togetherWith])), (q_t_needs, .inl (G 0, 256, .inl g185)), (q_p1, .inr (1, [.int p1_there, .int p1_sat, .int p1_hour, .ref q_p1_ills, .ref q_p1_roomOf, .ref q_p1_effects, .ref q_p1_badFor, .ref q_p1_likes, .ref q_p1_sights])), (q_p1_ills, .inl (G 0, 18, .inl p1_ills)), (q_p1_effects, .inl (G 0, 12, .inl p1_effects)), (q_p1_badFor, .inl (G 0, 36, .inl p1_badFor))] H := hP
                    have hD : va_D A [(q_t, .inr (3, [.int t_hours, .int t_number, .ref q_t_needs, .ref q_t_apartFrom, .ref q_t_togetherWith])), (q_t_needs, .inl (G 0, 256, .inl g185)), (q_p1, .inr (1, [.int p1_there, .int p1_sat, .int p1_hour, .ref q_p1_ills, .ref q_p1_roomOf, .ref q_p1_effects, .ref q_p1_badFor, .ref q_p1_likes, .ref q_p1_sights])), (q_p1_ills, .inl (G 0, 18, .inl p1_ills)), (q_p1_effects, .inl (G 0, 12, .inl p1_effects)), (q_p1_badFor, .inl (G 0, 36, .inl p1_badFor))] := hD
                    exact E178 _ hf H locs hP hD hS ls (lv_sub hl [0, 1, 2, 3, 4] rfl)
                  have hf := h190
                  refine lv_if_eq (tgt := 65) hx hb dX3_weighNeeds_58 (by decide) (fun c187 => ?_) (fun c187 => ?_)
                  · have hf := ifp c187 hf
                    refine lv_aload_n hx hb dX3_weighNeeds_65 rfl (lv_at hl 1 rfl) ?_
                    refine lv_iload_n hx hb dX3_weighNeeds_66 rfl (lv_at hl 3 rfl) ?_
                    refine lv_iload hx hb dX3_weighNeeds_67 (lv_at hl 4 rfl) ?_
                    obtain ⟨r188, h189, hf⟩ := bd1E hf
                    refine kO_stat hx hb hml hown hts hK hn hP (kX3_needOf l D G fu q_p1 q_p1_ills q_p1_roomOf q_p1_effects q_p1_badFor q_p1_likes q_p1_sights p1_there p1_sat p1_hour p1_ills p1_effects p1_badFor w101 w153 h189) csX3_45 ⟨Nat.le_of_ble_eq_true rfl, Nat.le_of_ble_eq_true rfl⟩ [2, 3, 4, 5] rfl rfl hl.1 rfl (Nat.le_of_ble_eq_true rfl) ⟨Nat.zero_le _, Nat.zero_le _⟩ dX3_weighNeeds_69 ?_
                    exact E186 _ hf H locs hP hD hS ls (lv_sub hl [0, 1, 2, 3, 4] rfl)
                  · have hf := ifn c187 hf
                    refine lv_iconst (v := (0 : Int32)) hx hb dX3_weighNeeds_61 (by decide) ?_
                    refine lv_goto (tgt := 72) hx hb dX3_weighNeeds_62 (by decide) ?_
                    exact E186 _ hf H locs hP hD hS ls (lv_sub hl [0, 1, 2, 3, 4] rfl)
          exact L157 fu (0 : Int32) w102 h159 H locs hP hD hS ls (lv_sub hl [1, 2, 3, 4, 0] rfl)
    exact L105 fu (0 : Int32) t_needs h107 H locs hP hD hS ls (lv_sub hl [2, 3, 1, 0] rfl)
  have hf := h197
  refine lv_icmp_ne (tgt := 15) hx hb dX3_weighNeeds_8 (by decide) (fun c196 => ?_) (fun c196 => ?_)
  · have hf := ifn c196 hf
    refine lv_iconst (v := (0 : Int32)) hx hb dX3_weighNeeds_15 (by decide) ?_
    exact E195 _ hf H locs hP hD hS ls (lv_sub hl [0, 1] rfl)
  · have hf := ifp c196 hf
    refine lv_iconst (v := (1 : Int32)) hx hb dX3_weighNeeds_11 (by decide) ?_
    refine lv_goto (tgt := 16) hx hb dX3_weighNeeds_12 (by decide) ?_
    exact E195 _ hf H locs hP hD hS ls (lv_sub hl [0, 1] rfl)
set_option maxHeartbeats 4000000 in
set_option maxRecDepth 100000 in
theorem kX3_weighWay (l : Launch) (D : va_G) (G : Nat → ClassId) (fu : Nat) (q_t q_t_needs q_t_apartFrom q_t_togetherWith : Nat) (t_hours : Int32) (t_number : Int32) (t_needs : Nat → Int32) (v1 : Int32) (v2 : Int32) {o_t_hours : Int32} {o_t_number : Int32} (hf : fX3_weighWay fu t_hours t_number t_needs v1 v2 = some (o_t_hours, o_t_number)) : rW l D G yX3_weighWay cX3_weighWay 5 none 2 81 [.ref q_t, .int v1, .int v2] [(q_t, .inr (3, [.int t_hours, .int t_number, .ref q_t_needs, .ref q_t_apartFrom, .ref q_t_togetherWith])), (q_t_needs, .inl (G 0, 256, .inl t_needs))] [(q_t, .inr (3, [.int o_t_hours, .int o_t_number, .ref q_t_needs, .ref q_t_apartFrom, .ref q_t_togetherWith])), (q_t_needs, .inl (G 0, 256, .inl t_needs))] none := by
  refine rW_of (by decide) (Nat.le_of_ble_eq_true rfl) ?_
  intro p e s m args below meth c Q A hx hb hml hown hts hK hn hA RET H locs hP hD hS ls hl
  have RT : ∀ (a0_ : Int32) (a1_ : Int32), some (a0_, a1_) = some (o_t_hours, o_t_number) → ∀ (pc : Nat) (ls : Array Slot) (ins : Instr) (H : Heap) (locs : List Loc), decode cX3_weighWay pc = .ok (ins, 1) → rk none none ins → va_P D vwCl [(q_t, .inr (3, [.int a0_, .int a1_, .ref q_t_needs, .ref q_t_apartFrom, .ref q_t_togetherWith])), (q_t_needs, .inl (G 0, 256, .inl t_needs))] H → va_D A [(q_t, .inr (3, [.int a0_, .int a1_, .ref q_t_needs, .ref q_t_apartFrom, .ref q_t_togetherWith])), (q_t_needs, .inl (G 0, 256, .inl t_needs))] → va_S A s.heap H locs → W p l e (kR 2 81) s m args below meth c H locs 0 0 Q (F0 m pc ls []) := by
    intro a0_ a1_ hy; obtain ⟨rfl, rfl⟩ := sm2 hy
    exact RET
  have hown : s.vm.findClass RX3 = some m.cls := hown
  have hl : lv_has ls 5 [(0, .ref q_t), (1, .int v1), (2, .int v2)] := hl
  clear RET
  rw [fX3_weighWay] at hf
  refine lv_iconst (v := (0 : Int32)) hx hb dX3_weighWay_0 (by decide) ?_
  refine lv_istore_n (lv' := [(3, .int (0 : Int32)), (0, .ref q_t), (1, .int v1), (2, .int v2)]) hx hb dX3_weighWay_1 rfl hl (by decide) rfl (fun ls hl => ?_)
  refine lv_iconst (v := (0 : Int32)) hx hb dX3_weighWay_2 (by decide) ?_
  refine lv_istore (lv' := [(4, .int (0 : Int32)), (3, .int (0 : Int32)), (0, .ref q_t), (1, .int v1), (2, .int v2)]) hx hb dX3_weighWay_3 hl (by decide) rfl (fun ls hl => ?_)
  obtain ⟨u16, h20, hf⟩ := bd1E hf
  have E17 : ∀ (z29 : Int32), some z29 = some u16 → ∀ (H : Heap) (locs : List Loc), va_P D vwCl [(q_t, .inr (3, [.int t_hours, .int t_number, .ref q_t_needs, .ref q_t_apartFrom, .ref q_t_togetherWith])), (q_t_needs, .inl (G 0, 256, .inl t_needs))] H → va_D A [(q_t, .inr (3, [.int t_hours, .int t_number, .ref q_t_needs, .ref q_t_apartFrom, .ref q_t_togetherWith])), (q_t_needs, .inl (G 0, 256, .inl t_needs))] → va_S A s.heap H locs → ∀ ls : Array Slot, lv_has ls 5 [(0, .ref q_t), (2, .int v2), (3, .int z29)] → W p l e (kR 2 81) s m args below meth c H locs 0 0 Q (F0 m 39 ls []) := by
    intro z29 hy; obtain rfl := sm1 hy
    intro H locs hP hD hS ls hl
    refine lv_iload_n hx hb dX3_weighWay_39 rfl (lv_at hl 2 rfl) ?_
    refine lv_aload_n hx hb dX3_weighWay_40 rfl (lv_at hl 0 rfl) ?_
    refine va_get (D := D) (ci := 3) (v := .int t_hours) (C := RX3) (T := TX3) (N := 5) hx hb hts inX3 hown hK hP 0 rfl rfl 0 (by decide) (hts _ lfX3_21) (fun _ h9 => h9) rfl dX3_weighWay_41 ?_
    refine lv_icmp_ge (tgt := 57) hx hb dX3_weighWay_44 (by decide) (fun c30 => ?_) (fun c30 => ?_)
    · have hf := ifp c30 hf
      exact RT _ _ hf _ _ _ H locs dX3_weighWay_57 rkV hP hD hS
    · have hf := ifn c30 hf
      refine lv_aload_n hx hb dX3_weighWay_47 rfl (lv_at hl 0 rfl) ?_
      refine lv_iload_n hx hb dX3_weighWay_48 rfl (lv_at hl 2 rfl) ?_
      refine va_put (D := D) (ci := 3) (v := .int z29) (ty := .int) (C := RX3) (T := TX3) (N := 5) hx hb hts inX3 tyX3 tyX3_ok nmX3 hown hK hP hD hS 0 rfl rfl 0 (by decide) (hts _ lfX3_21) (fun _ h9 => h9) rfl (tyX3_ok 0 (by decide)) rfl rfl (Nat.le_of_ble_eq_true rfl) dX3_weighWay_49 (fun H locs hP hD hS => ?_)
      have hP : va_P D vwCl [(q_t, .inr (3, [.int z29, .int t_number, .ref q_t_needs, .ref q_t_apartFrom, .ref q_t_togetherWith])), (q_t_needs, .inl (G 0, 256, .inl t_needs))] H := hP
      have hD : va_D A [(q_t, .inr (3, [.int z29, .int t_number, .ref q_t_needs, .ref q_t_apartFrom, .ref q_t_togetherWith])), (q_t_needs, .inl (G 0, 256, .inl t_needs))] := hD
      refine lv_aload_n hx hb dX3_weighWay_52 rfl (lv_at hl 0 rfl) ?_
      refine lv_iload_n hx hb dX3_weighWay_53 rfl (lv_at hl 1 rfl) ?_
      refine va_put (D := D) (ci := 3) (v := .int v2) (ty := .int) (C := RX3) (T := TX3) (N := 5) hx hb hts inX3 tyX3 tyX3_ok nmX3 hown hK hP hD hS 0 rfl rfl 1 (by decide) (hts _ lfX3_25) (fun _ h9 => h9) rfl (tyX3_ok 1 (by decide)) rfl rfl (Nat.le_of_ble_eq_true rfl) dX3_weighWay_54 (fun H locs hP hD hS => ?_)
      have hP : va_P D vwCl [(q_t, .inr (3, [.int z29, .int v2, .ref q_t_needs, .ref q_t_apartFrom, .ref q_t_togetherWith])), (q_t_needs, .inl (G 0, 256, .inl t_needs))] H := hP
      have hD : va_D A [(q_t, .inr (3, [.int z29, .int v2, .ref q_t_needs, .ref q_t_apartFrom, .ref q_t_togetherWith])), (q_t_needs, .inl (G 0, 256, .inl t_needs))] := hD
      exact RT _ _ hf _ _ _ H locs dX3_weighWay_57 rkV hP hD hS
  have L18 : ∀ (k : Nat) (w14 : Int32) (w15 : Int32), fX3_weighWay_5 v1 t_needs k w14 w15 = some u16 → ∀ (H : Heap) (locs : List Loc), va_P D vwCl [(q_t, .inr (3, [.int t_hours, .int t_number, .ref q_t_needs, .ref q_t_apartFrom, .ref q_t_togetherWith])), (q_t_needs, .inl (G 0, 256, .inl t_needs))] H → va_D A [(q_t, .inr (3, [.int t_hours, .int t_number, .ref q_t_needs, .ref q_t_apartFrom, .ref q_t_togetherWith])), (q_t_needs, .inl (G 0, 256, .inl t_needs))] → va_S A s.heap H locs → ∀ ls : Array Slot, lv_has ls 5 [(0, .ref q_t), (1, .int v1), (2, .int v2), (3, .int w14), (4, .int w15)] → W p l e (kR 2 81) s m args below meth c H locs 0 0 Q (F0 m 5 ls []) := by
    intro k; induction k with
    | zero => intro w14 w15 hf; exact nosome hf
    | succ k ih =>
      intro w14 w15 hf; rw [fX3_weighWay_5] at hf
      intro H locs hP hD hS ls hl
      refine lv_iload hx hb dX3_weighWay_5 (lv_at hl 4 rfl) ?_
      refine lv_iconst (v := (4 : Int32)) hx hb dX3_weighWay_7 (by decide) ?_
      refine lv_icmp_ge (tgt := 39) hx hb dX3_weighWay_8 (by decide) (fun c23 => ?_) (fun c23 => ?_)
      · have hf := ifp c23 hf
        exact E17 _ hf H locs hP hD hS ls (lv_sub hl [0, 2, 3] rfl)
      · have hf := ifn c23 hf
        refine lv_iload_n hx hb dX3_weighWay_11 rfl (lv_at hl 3 rfl) ?_
        refine lv_aload_n hx hb dX3_weighWay_12 rfl (lv_at hl 0 rfl) ?_
        refine va_get (D := D) (ci := 3) (v := .ref q_t_needs) (C := RX3) (T := TX3) (N := 5) hx hb hts inX3 hown hK hP 0 rfl rfl 2 (by decide) (hts _ lfX3_9) (fun _ h9 => h9) rfl dX3_weighWay_13 ?_
        refine lv_iload hx hb dX3_weighWay_16 (lv_at hl 4 rfl) ?_
        refine lv_bipush (v := (64 : Int32)) hx hb dX3_weighWay_18 (by decide) ?_
        refine lv_imul hx hb dX3_weighWay_20 ?_
        refine lv_iload_n hx hb dX3_weighWay_21 rfl (lv_at hl 1 rfl) ?_
        refine lv_iload hx hb dX3_weighWay_22 (lv_at hl 4 rfl) ?_
        obtain ⟨r24, h25, hf⟩ := bd1E hf
        refine kO_stat hx hb hml hown hts hK hn hP (kX3_setIn l D G v1 w15 h25) csX3_66 ⟨Nat.le_of_ble_eq_true rfl, Nat.le_of_ble_eq_true rfl⟩ [] rfl rfl hl.1 rfl (Nat.le_of_ble_eq_true rfl) ⟨Nat.zero_le _, Nat.zero_le _⟩ dX3_weighWay_24 ?_
        refine lv_iadd hx hb dX3_weighWay_27 ?_
        obtain ⟨x26, ex26, ix26, hf⟩ := ldIE hf
        refine k_iald hx hb hK hP 1 0 rfl rfl ix26 ex26 dX3_weighWay_28 ?_
        refine va_mmax hx hb (hml.trans hl.1.symm) hown (hts _ lmX3_53) (hts _ ks_max_int) (hts _ niJ9) (hts _ kc_max_int) (Nat.le_of_ble_eq_true rfl) (Nat.le_of_ble_eq_true rfl) (Nat.le_of_ble_eq_true rfl) (Nat.le_of_ble_eq_true rfl) dX3_weighWay_29 ?_
        refine lv_topi (fun y27 ey27 => ?_)
        have hf := nmeU ey27 hf
        refine lv_istore_n (lv' := [(3, .int y27), (0, .ref q_t), (1, .int v1), (2, .int v2), (4, .int w15)]) hx hb dX3_weighWay_32 rfl hl (by decide) rfl (fun ls hl => ?_)
        obtain ⟨y28, ey28⟩ : ∃ y : Int32, y = w15 + (1 : Int32) := ⟨_, rfl⟩
        have hf := nmeU ey28 hf
        refine lv_iinc (v := y28) (lv' := [(4, .int y28), (3, .int y27), (0, .ref q_t), (1, .int v1), (2, .int v2)]) hx hb dX3_weighWay_33 hl (k := 4) rfl (by rw [ey28]; rfl) (by decide) rfl (fun ls hl => ?_)
        refine lv_goto (tgt := 5) hx hb dX3_weighWay_36 (by decide) ?_
        exact ih _ _ hf H locs hP hD hS ls (lv_sub hl [2, 3, 4, 1, 0] rfl)
  exact L18 fu (0 : Int32) (0 : Int32) h20 H locs hP hD hS ls (lv_sub hl [2, 3, 4, 1, 0] rfl)
set_option maxHeartbeats 4000000 in
set_option maxRecDepth 100000 in
theorem kX3_placeFrom (l : Launch) (D : va_G) (G : Nat → ClassId) (fu : Nat) : ∀ (dp : Nat) (q_t q_t_needs q_t_apartFrom q_t_togetherWith : Nat) (t_hours : Int32) (t_number : Int32) (t_needs : Nat → Int32) (v1 : Int32) (v2 : Int32) (v3 : Int32) (v4 : Int32) {o_t_hours : Int32} {o_t_number : Int32}, fX3_placeFrom fu dp t_hours t_number t_needs v1 v2 v3 v4 = some (o_t_hours, o_t_number) → rW l D G yX3_placeFrom cX3_placeFrom 6 none (dp + 3) (60 * dp + 105) [.ref q_t, .int v1, .int v2, .int v3, .int v4] [(q_t, .inr (3, [.int t_hours, .int t_number, .ref q_t_needs, .ref q_t_apartFrom, .ref q_t_togetherWith])), (q_t_needs, .inl (G 0, 256, .inl t_needs))] [(q_t, .inr (3, [.int o_t_hours, .int o_t_number, .ref q_t_needs, .ref q_t_apartFrom, .ref q_t_togetherWith])), (q_t_needs, .inl (G 0, 256, .inl t_needs))] none := by
  intro dp; induction dp with
  | zero => intro q_t q_t_needs q_t_apartFrom q_t_togetherWith t_hours t_number t_needs v1 v2 v3 v4 o_t_hours o_t_number hf; exact nosome hf
  | succ dp ihd =>
    intro q_t q_t_needs q_t_apartFrom q_t_togetherWith t_hours t_number t_needs v1 v2 v3 v4 o_t_hours o_t_number hf
    refine rW_of (by decide) (Nat.le_of_ble_eq_true rfl) ?_
    intro p e s m args below meth c Q A hx hb hml hown hts hK hn hA RET H locs hP hD hS ls hl
    have RT : ∀ (a0_ : Int32) (a1_ : Int32), some (a0_, a1_) = some (o_t_hours, o_t_number) → ∀ (pc : Nat) (ls : Array Slot) (ins : Instr) (H : Heap) (locs : List Loc), decode cX3_placeFrom pc = .ok (ins, 1) → rk none none ins → va_P D vwCl [(q_t, .inr (3, [.int a0_, .int a1_, .ref q_t_needs, .ref q_t_apartFrom, .ref q_t_togetherWith])), (q_t_needs, .inl (G 0, 256, .inl t_needs))] H → va_D A [(q_t, .inr (3, [.int a0_, .int a1_, .ref q_t_needs, .ref q_t_apartFrom, .ref q_t_togetherWith])), (q_t_needs, .inl (G 0, 256, .inl t_needs))] → va_S A s.heap H locs → W p l e (kR (dp + 1 + 3) (60 * (dp + 1) + 105)) s m args below meth c H locs 0 0 Q (F0 m pc ls []) := by
      intro a0_ a1_ hy; obtain ⟨rfl, rfl⟩ := sm2 hy
      exact RET
    have hown : s.vm.findClass RX3 = some m.cls := hown
    have hl : lv_has ls 6 [(0, .ref q_t), (1, .int v1), (2, .int v2), (3, .int v3), (4, .int v4)] := hl
    clear RET
    rw [fX3_placeFrom] at hf
    refine lv_iload_n hx hb dX3_placeFrom_0 rfl (lv_at hl 2 rfl) ?_
    refine lv_bipush (v := (6 : Int32)) hx hb dX3_placeFrom_1 (by decide) ?_
    refine lv_icmp_lt (tgt := 16) hx hb dX3_placeFrom_3 (by decide) (fun c1 => ?_) (fun c1 => ?_)
    · have hf := ifp c1 hf
      refine lv_iload_n hx hb dX3_placeFrom_16 rfl (lv_at hl 1 rfl) ?_
      refine lv_iload_n hx hb dX3_placeFrom_17 rfl (lv_at hl 2 rfl) ?_
      refine lv_ishr hx hb dX3_placeFrom_18 ?_
      refine lv_iconst (v := (1 : Int32)) hx hb dX3_placeFrom_19 (by decide) ?_
      refine lv_iand hx hb dX3_placeFrom_20 ?_
      refine lv_if_ne (tgt := 43) hx hb dX3_placeFrom_21 (by decide) (fun c2 => ?_) (fun c2 => ?_)
      · have hf := ifn c2 hf
        refine lv_iconst (v := (0 : Int32)) hx hb dX3_placeFrom_43 (by decide) ?_
        refine lv_istore (lv' := [(5, .int (0 : Int32)), (0, .ref q_t), (1, .int v1), (2, .int v2), (3, .int v3), (4, .int v4)]) hx hb dX3_placeFrom_44 hl (by decide) rfl (fun ls hl => ?_)
        obtain ⟨u22, u23, h27, hf⟩ := bd2E hf
        have E24 : ∀ (z38 : Int32) (z39 : Int32), some (z38, z39) = some (u22, u23) → ∀ (H : Heap) (locs : List Loc), va_P D vwCl [(q_t, .inr (3, [.int z38, .int z39, .ref q_t_needs, .ref q_t_apartFrom, .ref q_t_togetherWith])), (q_t_needs, .inl (G 0, 256, .inl t_needs))] H → va_D A [(q_t, .inr (3, [.int z38, .int z39, .ref q_t_needs, .ref q_t_apartFrom, .ref q_t_togetherWith])), (q_t_needs, .inl (G 0, 256, .inl t_needs))] → va_S A s.heap H locs → ∀ ls : Array Slot, lv_has ls 6 [] → W p l e (kR (dp + 1 + 3) (60 * (dp + 1) + 105)) s m args below meth c H locs 0 0 Q (F0 m 88 ls []) := by
          intro z38 z39 hy; obtain ⟨rfl, rfl⟩ := sm2 hy
          intro H locs hP hD hS ls hl
          exact RT _ _ hf _ _ _ H locs dX3_placeFrom_88 rkV hP hD hS
        have L25 : ∀ (k : Nat) (w19 : Int32) (w20 : Int32) (w21 : Int32), fX3_placeFrom_46 v3 v2 (fX3_placeFrom fu dp) t_needs v1 v4 k w19 w20 w21 = some (u22, u23) → ∀ (H : Heap) (locs : List Loc), va_P D vwCl [(q_t, .inr (3, [.int w20, .int w21, .ref q_t_needs, .ref q_t_apartFrom, .ref q_t_togetherWith])), (q_t_needs, .inl (G 0, 256, .inl t_needs))] H → va_D A [(q_t, .inr (3, [.int w20, .int w21, .ref q_t_needs, .ref q_t_apartFrom, .ref q_t_togetherWith])), (q_t_needs, .inl (G 0, 256, .inl t_needs))] → va_S A s.heap H locs → ∀ ls : Array Slot, lv_has ls 6 [(0, .ref q_t), (1, .int v1), (2, .int v2), (3, .int v3), (4, .int v4), (5, .int w19)] → W p l e (kR (dp + 1 + 3) (60 * (dp + 1) + 105)) s m args below meth c H locs 0 0 Q (F0 m 46 ls []) := by
          intro k; induction k with
          | zero => intro w19 w20 w21 hf; exact nosome hf
          | succ k ih =>
            intro w19 w20 w21 hf; rw [fX3_placeFrom_46] at hf
            intro H locs hP hD hS ls hl
            refine lv_iload hx hb dX3_placeFrom_46 (lv_at hl 5 rfl) ?_
            refine lv_iconst (v := (4 : Int32)) hx hb dX3_placeFrom_48 (by decide) ?_
            refine lv_icmp_ge (tgt := 88) hx hb dX3_placeFrom_49 (by decide) (fun c30 => ?_) (fun c30 => ?_)
            · have hf := ifp c30 hf
              exact E24 _ _ hf H locs hP hD hS ls (lv_sub hl [] rfl)
            · have hf := ifn c30 hf
              refine lv_aload_n hx hb dX3_placeFrom_52 rfl (lv_at hl 0 rfl) ?_
              refine va_get (D := D) (ci := 3) (v := .int w20) (C := RX3) (T := TX3) (N := 5) hx hb hts inX3 hown hK hP 0 rfl rfl 0 (by decide) (hts _ lfX3_21) (fun _ h9 => h9) rfl dX3_placeFrom_53 ?_
              refine lv_if_le (tgt := 88) hx hb dX3_placeFrom_56 (by decide) (fun c31 => ?_) (fun c31 => ?_)
              · have hf := ifp c31 hf
                exact E24 _ _ hf H locs hP hD hS ls (lv_sub hl [] rfl)
              · have hf := ifn c31 hf
                refine lv_aload_n hx hb dX3_placeFrom_59 rfl (lv_at hl 0 rfl) ?_
                refine lv_iload_n hx hb dX3_placeFrom_60 rfl (lv_at hl 1 rfl) ?_
                refine lv_iload_n hx hb dX3_placeFrom_61 rfl (lv_at hl 2 rfl) ?_
                refine lv_iconst (v := (1 : Int32)) hx hb dX3_placeFrom_62 (by decide) ?_
                refine lv_iadd hx hb dX3_placeFrom_63 ?_
                refine lv_iload_n hx hb dX3_placeFrom_64 rfl (lv_at hl 3 rfl) ?_
                refine lv_iload hx hb dX3_placeFrom_65 (lv_at hl 5 rfl) ?_
                refine lv_iload_n hx hb dX3_placeFrom_67 rfl (lv_at hl 2 rfl) ?_
                obtain ⟨r32, h33, hf⟩ := bd1E hf
                refine kO_stat hx hb hml hown hts hK hn hP (kX3_join l D G v3 w19 v2 h33) csX3_63 ⟨by show 1 + 1 ≤ dp + 1 + 3; omega, by show 8 + (3 + 11) + 60 ≤ 60 * (dp + 1) + 105; omega⟩ [] rfl rfl hl.1 rfl (Nat.le_of_ble_eq_true rfl) ⟨Nat.zero_le _, Nat.zero_le _⟩ dX3_placeFrom_68 ?_
                refine lv_iload hx hb dX3_placeFrom_71 (lv_at hl 4 rfl) ?_
                refine lv_bipush (v := (10 : Int32)) hx hb dX3_placeFrom_73 (by decide) ?_
                refine lv_imul hx hb dX3_placeFrom_75 ?_
                refine lv_iload hx hb dX3_placeFrom_76 (lv_at hl 5 rfl) ?_
                refine lv_iadd hx hb dX3_placeFrom_78 ?_
                obtain ⟨o34, o35, h36, hf⟩ := bd2E hf
                refine kW_virt0 hx hb hml hown hts hK hn hA hP hD hS (ihd q_t q_t_needs q_t_apartFrom q_t_togetherWith w20 w21 t_needs v1 (v2 + (1 : Int32)) r32 ((v4 * (10 : Int32)) + w19) h36) cvX3_37 ⟨by show dp + 3 + 1 ≤ dp + 1 + 3; omega, by show 8 + (6 + 11) + (60 * dp + 105) ≤ 60 * (dp + 1) + 105; omega⟩ [0, 1] rfl rfl [true, true] rfl (w3 := [(q_t, .inr (3, [.int o34, .int o35, .ref q_t_needs, .ref q_t_apartFrom, .ref q_t_togetherWith])), (q_t_needs, .inl (G 0, 256, .inl t_needs))]) [0, 1] rfl rfl 0 rfl rfl rfl hl.1 rfl (Nat.le_of_ble_eq_true rfl) ⟨Nat.zero_le _, Nat.zero_le _⟩ dX3_placeFrom_79 (fun H locs hP hD hS => ?_)
                have hP : va_P D vwCl [(q_t, .inr (3, [.int o34, .int o35, .ref q_t_needs, .ref q_t_apartFrom, .ref q_t_togetherWith])), (q_t_needs, .inl (G 0, 256, .inl t_needs))] H := hP
                have hD : va_D A [(q_t, .inr (3, [.int o34, .int o35, .ref q_t_needs, .ref q_t_apartFrom, .ref q_t_togetherWith])), (q_t_needs, .inl (G 0, 256, .inl t_needs))] := hD
                obtain ⟨y37, ey37⟩ : ∃ y : Int32, y = w19 + (1 : Int32) := ⟨_, rfl⟩
                have hf := nmeU ey37 hf
                refine lv_iinc (v := y37) (lv' := [(5, .int y37), (0, .ref q_t), (1, .int v1), (2, .int v2), (3, .int v3), (4, .int v4)]) hx hb dX3_placeFrom_82 hl (k := 5) rfl (by rw [ey37]; rfl) (by decide) rfl (fun ls hl => ?_)
                refine lv_goto (tgt := 46) hx hb dX3_placeFrom_85 (by decide) ?_
                exact ih _ _ _ hf H locs hP hD hS ls (lv_sub hl [1, 2, 3, 4, 5, 0] rfl)
        exact L25 fu (0 : Int32) t_hours t_number h27 H locs hP hD hS ls (lv_sub hl [1, 2, 3, 4, 5, 0] rfl)
      · have hf := ifp c2 hf
        refine lv_aload_n hx hb dX3_placeFrom_24 rfl (lv_at hl 0 rfl) ?_
        refine lv_iload_n hx hb dX3_placeFrom_25 rfl (lv_at hl 1 rfl) ?_
        refine lv_iload_n hx hb dX3_placeFrom_26 rfl (lv_at hl 2 rfl) ?_
        refine lv_iconst (v := (1 : Int32)) hx hb dX3_placeFrom_27 (by decide) ?_
        refine lv_iadd hx hb dX3_placeFrom_28 ?_
        refine lv_iload_n hx hb dX3_placeFrom_29 rfl (lv_at hl 3 rfl) ?_
        refine lv_iload hx hb dX3_placeFrom_30 (lv_at hl 4 rfl) ?_
        refine lv_bipush (v := (10 : Int32)) hx hb dX3_placeFrom_32 (by decide) ?_
        refine lv_imul hx hb dX3_placeFrom_34 ?_
        refine lv_iconst (v := (4 : Int32)) hx hb dX3_placeFrom_35 (by decide) ?_
        refine lv_iadd hx hb dX3_placeFrom_36 ?_
        obtain ⟨o40, o41, h42, hf⟩ := bd2E hf
        refine kW_virt0 hx hb hml hown hts hK hn hA hP hD hS (ihd q_t q_t_needs q_t_apartFrom q_t_togetherWith t_hours t_number t_needs v1 (v2 + (1 : Int32)) v3 ((v4 * (10 : Int32)) + (4 : Int32)) h42) cvX3_37 ⟨by show dp + 3 + 1 ≤ dp + 1 + 3; omega, by show 8 + (6 + 11) + (60 * dp + 105) ≤ 60 * (dp + 1) + 105; omega⟩ [0, 1] rfl rfl [true, true] rfl (w3 := [(q_t, .inr (3, [.int o40, .int o41, .ref q_t_needs, .ref q_t_apartFrom, .ref q_t_togetherWith])), (q_t_needs, .inl (G 0, 256, .inl t_needs))]) [0, 1] rfl rfl 0 rfl rfl rfl hl.1 rfl (Nat.le_of_ble_eq_true rfl) ⟨Nat.zero_le _, Nat.zero_le _⟩ dX3_placeFrom_37 (fun H locs hP hD hS => ?_)
        have hP : va_P D vwCl [(q_t, .inr (3, [.int o40, .int o41, .ref q_t_needs, .ref q_t_apartFrom, .ref q_t_togetherWith])), (q_t_needs, .inl (G 0, 256, .inl t_needs))] H := hP
        have hD : va_D A [(q_t, .inr (3, [.int o40, .int o41, .ref q_t_needs, .ref q_t_apartFrom, .ref q_t_togetherWith])), (q_t_needs, .inl (G 0, 256, .inl t_needs))] := hD
        refine lv_goto (tgt := 88) hx hb dX3_placeFrom_40 (by decide) ?_
        exact RT _ _ hf _ _ _ H locs dX3_placeFrom_88 rkV hP hD hS
    · have hf := ifn c1 hf
      refine lv_aload_n hx hb dX3_placeFrom_6 rfl (lv_at hl 0 rfl) ?_
      refine lv_iload_n hx hb dX3_placeFrom_7 rfl (lv_at hl 3 rfl) ?_
      refine lv_iload hx hb dX3_placeFrom_8 (lv_at hl 4 rfl) ?_
      obtain ⟨o43, o44, h45, hf⟩ := bd2E hf
      refine kW_virt0 hx hb hml hown hts hK hn hA hP hD hS (kX3_weighWay l D G fu q_t q_t_needs q_t_apartFrom q_t_togetherWith t_hours t_number t_needs v3 v4 h45) cvX3_59 ⟨by show 2 + 1 ≤ dp + 1 + 3; omega, by show 8 + (5 + 11) + 81 ≤ 60 * (dp + 1) + 105; omega⟩ [0, 1] rfl rfl [true, true] rfl (w3 := [(q_t, .inr (3, [.int o43, .int o44, .ref q_t_needs, .ref q_t_apartFrom, .ref q_t_togetherWith])), (q_t_needs, .inl (G 0, 256, .inl t_needs))]) [0, 1] rfl rfl 0 rfl rfl rfl hl.1 rfl (Nat.le_of_ble_eq_true rfl) ⟨Nat.zero_le _, Nat.zero_le _⟩ dX3_placeFrom_10 (fun H locs hP hD hS => ?_)
      have hP : va_P D vwCl [(q_t, .inr (3, [.int o43, .int o44, .ref q_t_needs, .ref q_t_apartFrom, .ref q_t_togetherWith])), (q_t_needs, .inl (G 0, 256, .inl t_needs))] H := hP
      have hD : va_D A [(q_t, .inr (3, [.int o43, .int o44, .ref q_t_needs, .ref q_t_apartFrom, .ref q_t_togetherWith])), (q_t_needs, .inl (G 0, 256, .inl t_needs))] := hD
      refine lv_goto (tgt := 88) hx hb dX3_placeFrom_13 (by decide) ?_
      exact RT _ _ hf _ _ _ H locs dX3_placeFrom_88 rkV hP hD hS
set_option maxHeartbeats 4000000 in
set_option maxRecDepth 100000 in
theorem kX3_findSoonest (l : Launch) (D : va_G) (G : Nat → ClassId) (fu : Nat) (q_t q_p1 q_t_needs q_t_apartFrom q_t_togetherWith q_p1_ills q_p1_roomOf q_p1_effects q_p1_badFor q_p1_likes q_p1_sights : Nat) (t_hours : Int32) (t_number : Int32) (t_needs : Nat → Int32) (p1_there : Int32) (p1_sat : Int32) (p1_hour : Int32) (p1_ills : Nat → Int32) (p1_effects : Nat → Int32) (p1_badFor : Nat → Int32) {o_t_hours : Int32} {o_t_number : Int32} {o_t_needs : Nat → Int32} (hf : fX3_findSoonest fu t_hours t_number t_needs p1_there p1_ills p1_effects p1_badFor = some (o_t_hours, o_t_number, o_t_needs)) : rW l D G yX3_findSoonest cX3_findSoonest 2 none 12 610 [.ref q_t, .ref q_p1] [(q_t, .inr (3, [.int t_hours, .int t_number, .ref q_t_needs, .ref q_t_apartFrom, .ref q_t_togetherWith])), (q_t_needs, .inl (G 0, 256, .inl t_needs)), (q_p1, .inr (1, [.int p1_there, .int p1_sat, .int p1_hour, .ref q_p1_ills, .ref q_p1_roomOf, .ref q_p1_effects, .ref q_p1_badFor, .ref q_p1_likes, .ref q_p1_sights])), (q_p1_ills, .inl (G 0, 18, .inl p1_ills)), (q_p1_effects, .inl (G 0, 12, .inl p1_effects)), (q_p1_badFor, .inl (G 0, 36, .inl p1_badFor))] [(q_t, .inr (3, [.int o_t_hours, .int o_t_number, .ref q_t_needs, .ref q_t_apartFrom, .ref q_t_togetherWith])), (q_t_needs, .inl (G 0, 256, .inl o_t_needs)), (q_p1, .inr (1, [.int p1_there, .int p1_sat, .int p1_hour, .ref q_p1_ills, .ref q_p1_roomOf, .ref q_p1_effects, .ref q_p1_badFor, .ref q_p1_likes, .ref q_p1_sights])), (q_p1_ills, .inl (G 0, 18, .inl p1_ills)), (q_p1_effects, .inl (G 0, 12, .inl p1_effects)), (q_p1_badFor, .inl (G 0, 36, .inl p1_badFor))] none := by
  refine rW_of (by decide) (Nat.le_of_ble_eq_true rfl) ?_
  intro p e s m args below meth c Q A hx hb hml hown hts hK hn hA RET H locs hP hD hS ls hl
  have RT : ∀ (a0_ : Int32) (a1_ : Int32) (a2_ : Nat → Int32), some (a0_, a1_, a2_) = some (o_t_hours, o_t_number, o_t_needs) → ∀ (pc : Nat) (ls : Array Slot) (ins : Instr) (H : Heap) (locs : List Loc), decode cX3_findSoonest pc = .ok (ins, 1) → rk none none ins → va_P D vwCl [(q_t, .inr (3, [.int a0_, .int a1_, .ref q_t_needs, .ref q_t_apartFrom, .ref q_t_togetherWith])), (q_t_needs, .inl (G 0, 256, .inl a2_)), (q_p1, .inr (1, [.int p1_there, .int p1_sat, .int p1_hour, .ref q_p1_ills, .ref q_p1_roomOf, .ref q_p1_effects, .ref q_p1_badFor, .ref q_p1_likes, .ref q_p1_sights])), (q_p1_ills, .inl (G 0, 18, .inl p1_ills)), (q_p1_effects, .inl (G 0, 12, .inl p1_effects)), (q_p1_badFor, .inl (G 0, 36, .inl p1_badFor))] H → va_D A [(q_t, .inr (3, [.int a0_, .int a1_, .ref q_t_needs, .ref q_t_apartFrom, .ref q_t_togetherWith])), (q_t_needs, .inl (G 0, 256, .inl a2_)), (q_p1, .inr (1, [.int p1_there, .int p1_sat, .int p1_hour, .ref q_p1_ills, .ref q_p1_roomOf, .ref q_p1_effects, .ref q_p1_badFor, .ref q_p1_likes, .ref q_p1_sights])), (q_p1_ills, .inl (G 0, 18, .inl p1_ills)), (q_p1_effects, .inl (G 0, 12, .inl p1_effects)), (q_p1_badFor, .inl (G 0, 36, .inl p1_badFor))] → va_S A s.heap H locs → W p l e (kR 12 610) s m args below meth c H locs 0 0 Q (F0 m pc ls []) := by
    intro a0_ a1_ a2_ hy; obtain ⟨rfl, rfl, rfl⟩ := sm3 hy
    exact RET
  have hown : s.vm.findClass RX3 = some m.cls := hown
  have hl : lv_has ls 2 [(0, .ref q_t), (1, .ref q_p1)] := hl
  clear RET
  rw [fX3_findSoonest] at hf
  refine lv_aload_n hx hb dX3_findSoonest_0 rfl (lv_at hl 0 rfl) ?_
  refine lv_sipush (v := (1000 : Int32)) hx hb dX3_findSoonest_1 (by decide) ?_
  refine va_put (D := D) (ci := 3) (v := .int (1000 : Int32)) (ty := .int) (C := RX3) (T := TX3) (N := 5) hx hb hts inX3 tyX3 tyX3_ok nmX3 hown hK hP hD hS 0 rfl rfl 0 (by decide) (hts _ lfX3_21) (fun _ h9 => h9) rfl (tyX3_ok 0 (by decide)) rfl rfl (Nat.le_of_ble_eq_true rfl) dX3_findSoonest_4 (fun H locs hP hD hS => ?_)
  have hP : va_P D vwCl [(q_t, .inr (3, [.int (1000 : Int32), .int t_number, .ref q_t_needs, .ref q_t_apartFrom, .ref q_t_togetherWith])), (q_t_needs, .inl (G 0, 256, .inl t_needs)), (q_p1, .inr (1, [.int p1_there, .int p1_sat, .int p1_hour, .ref q_p1_ills, .ref q_p1_roomOf, .ref q_p1_effects, .ref q_p1_badFor, .ref q_p1_likes, .ref q_p1_sights])), (q_p1_ills, .inl (G 0, 18, .inl p1_ills)), (q_p1_effects, .inl (G 0, 12, .inl p1_effects)), (q_p1_badFor, .inl (G 0, 36, .inl p1_badFor))] H := hP
  have hD : va_D A [(q_t, .inr (3, [.int (1000 : Int32), .int t_number, .ref q_t_needs, .ref q_t_apartFrom, .ref q_t_togetherWith])), (q_t_needs, .inl (G 0, 256, .inl t_needs)), (q_p1, .inr (1, [.int p1_there, .int p1_sat, .int p1_hour, .ref q_p1_ills, .ref q_p1_roomOf, .ref q_p1_effects, .ref q_p1_badFor, .ref q_p1_likes, .ref q_p1_sights])), (q_p1_ills, .inl (G 0, 18, .inl p1_ills)), (q_p1_effects, .inl (G 0, 12, .inl p1_effects)), (q_p1_badFor, .inl (G 0, 36, .inl p1_badFor))] := hD
  refine lv_aload_n hx hb dX3_findSoonest_7 rfl (lv_at hl 0 rfl) ?_
  refine lv_iconst (v := (0 : Int32)) hx hb dX3_findSoonest_8 (by decide) ?_
  refine va_put (D := D) (ci := 3) (v := .int (0 : Int32)) (ty := .int) (C := RX3) (T := TX3) (N := 5) hx hb hts inX3 tyX3 tyX3_ok nmX3 hown hK hP hD hS 0 rfl rfl 1 (by decide) (hts _ lfX3_25) (fun _ h9 => h9) rfl (tyX3_ok 1 (by decide)) rfl rfl (Nat.le_of_ble_eq_true rfl) dX3_findSoonest_9 (fun H locs hP hD hS => ?_)
  have hP : va_P D vwCl [(q_t, .inr (3, [.int (1000 : Int32), .int (0 : Int32), .ref q_t_needs, .ref q_t_apartFrom, .ref q_t_togetherWith])), (q_t_needs, .inl (G 0, 256, .inl t_needs)), (q_p1, .inr (1, [.int p1_there, .int p1_sat, .int p1_hour, .ref q_p1_ills, .ref q_p1_roomOf, .ref q_p1_effects, .ref q_p1_badFor, .ref q_p1_likes, .ref q_p1_sights])), (q_p1_ills, .inl (G 0, 18, .inl p1_ills)), (q_p1_effects, .inl (G 0, 12, .inl p1_effects)), (q_p1_badFor, .inl (G 0, 36, .inl p1_badFor))] H := hP
  have hD : va_D A [(q_t, .inr (3, [.int (1000 : Int32), .int (0 : Int32), .ref q_t_needs, .ref q_t_apartFrom, .ref q_t_togetherWith])), (q_t_needs, .inl (G 0, 256, .inl t_needs)), (q_p1, .inr (1, [.int p1_there, .int p1_sat, .int p1_hour, .ref q_p1_ills, .ref q_p1_roomOf, .ref q_p1_effects, .ref q_p1_badFor, .ref q_p1_likes, .ref q_p1_sights])), (q_p1_ills, .inl (G 0, 18, .inl p1_ills)), (q_p1_effects, .inl (G 0, 12, .inl p1_effects)), (q_p1_badFor, .inl (G 0, 36, .inl p1_badFor))] := hD
  refine lv_aload_n hx hb dX3_findSoonest_12 rfl (lv_at hl 0 rfl) ?_
  refine lv_aload_n hx hb dX3_findSoonest_13 rfl (lv_at hl 1 rfl) ?_
  obtain ⟨o1, h2, hf⟩ := bd1E hf
  refine kW_virt0 hx hb hml hown hts hK hn hA hP hD hS (kX3_weighNeeds l D G fu q_t q_p1 q_t_needs q_t_apartFrom q_t_togetherWith q_p1_ills q_p1_roomOf q_p1_effects q_p1_badFor q_p1_likes q_p1_sights (1000 : Int32) (0 : Int32) t_needs p1_there p1_sat p1_hour p1_ills p1_effects p1_badFor h2) cvX3_28 ⟨Nat.le_of_ble_eq_true rfl, Nat.le_of_ble_eq_true rfl⟩ [0, 1, 2, 3, 4, 5] rfl rfl [true, true, true, true, true, true] rfl (w3 := [(q_t, .inr (3, [.int (1000 : Int32), .int (0 : Int32), .ref q_t_needs, .ref q_t_apartFrom, .ref q_t_togetherWith])), (q_t_needs, .inl (G 0, 256, .inl o1)), (q_p1, .inr (1, [.int p1_there, .int p1_sat, .int p1_hour, .ref q_p1_ills, .ref q_p1_roomOf, .ref q_p1_effects, .ref q_p1_badFor, .ref q_p1_likes, .ref q_p1_sights])), (q_p1_ills, .inl (G 0, 18, .inl p1_ills)), (q_p1_effects, .inl (G 0, 12, .inl p1_effects)), (q_p1_badFor, .inl (G 0, 36, .inl p1_badFor))]) [0, 1, 2, 3, 4, 5] rfl rfl 0 rfl rfl rfl hl.1 rfl (Nat.le_of_ble_eq_true rfl) ⟨Nat.zero_le _, Nat.zero_le _⟩ dX3_findSoonest_14 (fun H locs hP hD hS => ?_)
  have hP : va_P D vwCl [(q_t, .inr (3, [.int (1000 : Int32), .int (0 : Int32), .ref q_t_needs, .ref q_t_apartFrom, .ref q_t_togetherWith])), (q_t_needs, .inl (G 0, 256, .inl o1)), (q_p1, .inr (1, [.int p1_there, .int p1_sat, .int p1_hour, .ref q_p1_ills, .ref q_p1_roomOf, .ref q_p1_effects, .ref q_p1_badFor, .ref q_p1_likes, .ref q_p1_sights])), (q_p1_ills, .inl (G 0, 18, .inl p1_ills)), (q_p1_effects, .inl (G 0, 12, .inl p1_effects)), (q_p1_badFor, .inl (G 0, 36, .inl p1_badFor))] H := hP
  have hD : va_D A [(q_t, .inr (3, [.int (1000 : Int32), .int (0 : Int32), .ref q_t_needs, .ref q_t_apartFrom, .ref q_t_togetherWith])), (q_t_needs, .inl (G 0, 256, .inl o1)), (q_p1, .inr (1, [.int p1_there, .int p1_sat, .int p1_hour, .ref q_p1_ills, .ref q_p1_roomOf, .ref q_p1_effects, .ref q_p1_badFor, .ref q_p1_likes, .ref q_p1_sights])), (q_p1_ills, .inl (G 0, 18, .inl p1_ills)), (q_p1_effects, .inl (G 0, 12, .inl p1_effects)), (q_p1_badFor, .inl (G 0, 36, .inl p1_badFor))] := hD
  refine lv_aload_n hx hb dX3_findSoonest_17 rfl (lv_at hl 0 rfl) ?_
  refine lv_aload_n hx hb dX3_findSoonest_18 rfl (lv_at hl 1 rfl) ?_
  refine va_get (D := D) (ci := 1) (v := .int p1_there) (C := RX1) (T := TX1) (N := 9) hx hb hts inX1 hown hK hP 2 rfl rfl 0 (by decide) (hts _ lfX3_32) (fun _ h9 => h9) rfl dX3_findSoonest_19 ?_
  refine lv_iconst (v := (0 : Int32)) hx hb dX3_findSoonest_22 (by decide) ?_
  refine lv_iconst (v := (0 : Int32)) hx hb dX3_findSoonest_23 (by decide) ?_
  refine lv_iconst (v := (0 : Int32)) hx hb dX3_findSoonest_24 (by decide) ?_
  obtain ⟨o3, o4, h5, hf⟩ := bd2E hf
  refine kW_virt0 hx hb hml hown hts hK hn hA hP hD hS (kX3_placeFrom l D G fu 8 q_t q_t_needs q_t_apartFrom q_t_togetherWith (1000 : Int32) (0 : Int32) o1 p1_there (0 : Int32) (0 : Int32) (0 : Int32) h5) cvX3_37 ⟨Nat.le_of_ble_eq_true rfl, Nat.le_of_ble_eq_true rfl⟩ [0, 1] rfl rfl [true, true] rfl (w3 := [(q_t, .inr (3, [.int o3, .int o4, .ref q_t_needs, .ref q_t_apartFrom, .ref q_t_togetherWith])), (q_t_needs, .inl (G 0, 256, .inl o1))]) [0, 1] rfl rfl 0 rfl rfl rfl hl.1 rfl (Nat.le_of_ble_eq_true rfl) ⟨Nat.zero_le _, Nat.zero_le _⟩ dX3_findSoonest_25 (fun H locs hP hD hS => ?_)
  have hP : va_P D vwCl [(q_t, .inr (3, [.int o3, .int o4, .ref q_t_needs, .ref q_t_apartFrom, .ref q_t_togetherWith])), (q_t_needs, .inl (G 0, 256, .inl o1)), (q_p1, .inr (1, [.int p1_there, .int p1_sat, .int p1_hour, .ref q_p1_ills, .ref q_p1_roomOf, .ref q_p1_effects, .ref q_p1_badFor, .ref q_p1_likes, .ref q_p1_sights])), (q_p1_ills, .inl (G 0, 18, .inl p1_ills)), (q_p1_effects, .inl (G 0, 12, .inl p1_effects)), (q_p1_badFor, .inl (G 0, 36, .inl p1_badFor))] H := hP
  have hD : va_D A [(q_t, .inr (3, [.int o3, .int o4, .ref q_t_needs, .ref q_t_apartFrom, .ref q_t_togetherWith])), (q_t_needs, .inl (G 0, 256, .inl o1)), (q_p1, .inr (1, [.int p1_there, .int p1_sat, .int p1_hour, .ref q_p1_ills, .ref q_p1_roomOf, .ref q_p1_effects, .ref q_p1_badFor, .ref q_p1_likes, .ref q_p1_sights])), (q_p1_ills, .inl (G 0, 18, .inl p1_ills)), (q_p1_effects, .inl (G 0, 12, .inl p1_effects)), (q_p1_badFor, .inl (G 0, 36, .inl p1_badFor))] := hD
  exact RT _ _ _ hf _ _ _ H locs dX3_findSoonest_28 rkV hP hD hS
