set_option maxHeartbeats 4000000 in
set_option maxRecDepth 100000 in
theorem kX4_leastSeat (l : Launch) (D : va_G) (G : Nat → ClassId) (fu : Nat) (q_t q_t_most : Nat) (t_most : Nat → Int32) (v1 : Int32) (v2 : Int32) (v3 : Int32) {r : Int32} (hf : fX4_leastSeat fu t_most v1 v2 v3 = some r) : rO l D G yX4_leastSeat cX4_leastSeat 6 (some .int) 1 60 [.ref q_t, .int v1, .int v2, .int v3] [(q_t, .inr (4, [.ref q_t_most])), (q_t_most, .inl (G 0, 448, .inl t_most))] (some (.int r)) := by
  refine rO_of (by decide) (Nat.le_of_ble_eq_true rfl) ?_
  intro p e s m args below meth c Q hx hb hml hown hts hK hn hP RET ls hl
  have RT : ∀ (a0_ : Int32), some a0_ = some r → ∀ (pc : Nat) (ls : Array Slot) (ins : Instr), decode cX4_leastSeat pc = .ok (ins, 1) → rk (some .int) (some (.int a0_)) ins → W p l e (kR 1 60) s m args below meth c s.heap [] 0 0 Q (F0 m pc ls [.int a0_]) := by
    intro a0_ hy; obtain rfl := sm1 hy
    exact RET
  have hown : s.vm.findClass RX4 = some m.cls := hown
  have hl : lv_has ls 6 [(0, .ref q_t), (1, .int v1), (2, .int v2), (3, .int v3)] := hl
  clear RET
  rw [fX4_leastSeat] at hf
  refine lv_iload_n hx hb dX4_leastSeat_0 rfl (lv_at hl 1 rfl) ?_
  refine lv_iconst (v := (1 : Int32)) hx hb dX4_leastSeat_1 (by decide) ?_
  refine lv_iadd hx hb dX4_leastSeat_2 ?_
  refine lv_bipush (v := (64 : Int32)) hx hb dX4_leastSeat_3 (by decide) ?_
  refine lv_imul hx hb dX4_leastSeat_5 ?_
  refine lv_topi (fun y1 ey1 => ?_)
  have hf := nmeU ey1 hf
  refine lv_istore (lv' := [(4, .int y1), (0, .ref q_t), (1, .int v1), (2, .int v2), (3, .int v3)]) hx hb dX4_leastSeat_6 hl (by decide) rfl (fun ls hl => ?_)
  refine lv_iconst (v := (0 : Int32)) hx hb dX4_leastSeat_8 (by decide) ?_
  refine lv_istore (lv' := [(5, .int (0 : Int32)), (4, .int y1), (0, .ref q_t), (1, .int v1), (2, .int v2), (3, .int v3)]) hx hb dX4_leastSeat_9 hl (by decide) rfl (fun ls hl => ?_)
  obtain ⟨z18, h19, hr20, hc21⟩ := br0E hf
  have E16 : some (Sum.inr ()) = some z18 → ∀ ls : Array Slot, lv_has ls 6 [] → W p l e (kR 1 60) s m args below meth c s.heap [] 0 0 Q (F0 m 71 ls []) := by
    intro  hy; have hf := hc21  hy
    intro ls hl
    refine lv_bipush (v := (-6 : Int32)) hx hb dX4_leastSeat_71 (by decide) ?_
    exact RT _ hf _ _ _ dX4_leastSeat_73 (rkI _)
  have L17 : ∀ (k : Nat) (w15 : Int32), fX4_leastSeat_11 v3 v2 t_most y1 v1 k w15 = some z18 → ∀ ls : Array Slot, lv_has ls 6 [(0, .ref q_t), (1, .int v1), (2, .int v2), (3, .int v3), (4, .int y1), (5, .int w15)] → W p l e (kR 1 60) s m args below meth c s.heap [] 0 0 Q (F0 m 11 ls []) := by
    intro k; induction k with
    | zero => intro w15 hf; exact nosome hf
    | succ k ih =>
      intro w15 hf; rw [fX4_leastSeat_11] at hf
      intro ls hl
      refine lv_iload hx hb dX4_leastSeat_11 (lv_at hl 5 rfl) ?_
      refine lv_bipush (v := (6 : Int32)) hx hb dX4_leastSeat_13 (by decide) ?_
      refine lv_icmp_ge (tgt := 71) hx hb dX4_leastSeat_15 (by decide) (fun c22 => ?_) (fun c22 => ?_)
      · have hf := ifp c22 hf
        exact E16  hf ls (lv_sub hl [] rfl)
      · have hf := ifn c22 hf
        refine lv_iload_n hx hb dX4_leastSeat_18 rfl (lv_at hl 3 rfl) ?_
        refine lv_iload_n hx hb dX4_leastSeat_19 rfl (lv_at hl 2 rfl) ?_
        refine lv_iconst (v := (-1 : Int32)) hx hb dX4_leastSeat_20 (by decide) ?_
        refine lv_ixor hx hb dX4_leastSeat_21 ?_
        refine lv_iand hx hb dX4_leastSeat_22 ?_
        refine lv_iload hx hb dX4_leastSeat_23 (lv_at hl 5 rfl) ?_
        refine lv_ishr hx hb dX4_leastSeat_25 ?_
        refine lv_iconst (v := (1 : Int32)) hx hb dX4_leastSeat_26 (by decide) ?_
        refine lv_iand hx hb dX4_leastSeat_27 ?_
        refine lv_iconst (v := (1 : Int32)) hx hb dX4_leastSeat_28 (by decide) ?_
        refine lv_icmp_ne (tgt := 65) hx hb dX4_leastSeat_29 (by decide) (fun c23 => ?_) (fun c23 => ?_)
        · have hf := ifn c23 hf
          obtain ⟨y24, ey24⟩ : ∃ y : Int32, y = w15 + (1 : Int32) := ⟨_, rfl⟩
          have hf := nmeU ey24 hf
          refine lv_iinc (v := y24) (lv' := [(5, .int y24), (0, .ref q_t), (1, .int v1), (2, .int v2), (3, .int v3), (4, .int y1)]) hx hb dX4_leastSeat_65 hl (k := 5) rfl (by rw [ey24]; rfl) (by decide) rfl (fun ls hl => ?_)
          refine lv_goto (tgt := 11) hx hb dX4_leastSeat_68 (by decide) ?_
          exact ih _ hf ls (lv_sub hl [1, 2, 3, 4, 5, 0] rfl)
        · have hf := ifp c23 hf
          refine lv_iconst (v := (1 : Int32)) hx hb dX4_leastSeat_32 (by decide) ?_
          refine lv_aload_n hx hb dX4_leastSeat_33 rfl (lv_at hl 0 rfl) ?_
          refine va_get (D := D) (ci := 4) (v := .ref q_t_most) (C := RX4) (T := TX4) (N := 1) hx hb hts inX4 hown hK hP 0 rfl rfl 0 (by decide) (hts _ lfX4_9) (fun _ h9 => h9) rfl dX4_leastSeat_34 ?_
          refine lv_iload hx hb dX4_leastSeat_37 (lv_at hl 4 rfl) ?_
          refine lv_iload_n hx hb dX4_leastSeat_39 rfl (lv_at hl 2 rfl) ?_
          refine lv_iconst (v := (1 : Int32)) hx hb dX4_leastSeat_40 (by decide) ?_
          refine lv_iload hx hb dX4_leastSeat_41 (lv_at hl 5 rfl) ?_
          refine lv_ishl hx hb dX4_leastSeat_43 ?_
          refine lv_ior hx hb dX4_leastSeat_44 ?_
          refine lv_iadd hx hb dX4_leastSeat_45 ?_
          obtain ⟨x25, ex25, ix25, hf⟩ := ldIE hf
          refine k_iald hx hb hK hP 1 0 rfl rfl ix25 ex25 dX4_leastSeat_46 ?_
          refine lv_iadd hx hb dX4_leastSeat_47 ?_
          refine lv_aload_n hx hb dX4_leastSeat_48 rfl (lv_at hl 0 rfl) ?_
          refine va_get (D := D) (ci := 4) (v := .ref q_t_most) (C := RX4) (T := TX4) (N := 1) hx hb hts inX4 hown hK hP 0 rfl rfl 0 (by decide) (hts _ lfX4_9) (fun _ h9 => h9) rfl dX4_leastSeat_49 ?_
          refine lv_iload_n hx hb dX4_leastSeat_52 rfl (lv_at hl 1 rfl) ?_
          refine lv_bipush (v := (64 : Int32)) hx hb dX4_leastSeat_53 (by decide) ?_
          refine lv_imul hx hb dX4_leastSeat_55 ?_
          refine lv_iload_n hx hb dX4_leastSeat_56 rfl (lv_at hl 2 rfl) ?_
          refine lv_iadd hx hb dX4_leastSeat_57 ?_
          obtain ⟨x26, ex26, ix26, hf⟩ := ldIE hf
          refine k_iald hx hb hK hP 1 0 rfl rfl ix26 ex26 dX4_leastSeat_58 ?_
          refine lv_icmp_ne (tgt := 65) hx hb dX4_leastSeat_59 (by decide) (fun c27 => ?_) (fun c27 => ?_)
          · have hf := ifn c27 hf
            obtain ⟨y28, ey28⟩ : ∃ y : Int32, y = w15 + (1 : Int32) := ⟨_, rfl⟩
            have hf := nmeU ey28 hf
            refine lv_iinc (v := y28) (lv' := [(5, .int y28), (0, .ref q_t), (1, .int v1), (2, .int v2), (3, .int v3), (4, .int y1)]) hx hb dX4_leastSeat_65 hl (k := 5) rfl (by rw [ey28]; rfl) (by decide) rfl (fun ls hl => ?_)
            refine lv_goto (tgt := 11) hx hb dX4_leastSeat_68 (by decide) ?_
            exact ih _ hf ls (lv_sub hl [1, 2, 3, 4, 5, 0] rfl)
          · have hf := ifp c27 hf
            refine lv_iload hx hb dX4_leastSeat_62 (lv_at hl 5 rfl) ?_
            have hf := hr20 _ hf
            exact RT _ hf _ _ _ dX4_leastSeat_64 (rkI _)
  exact L17 fu (0 : Int32) h19 ls (lv_sub hl [2, 3, 4, 5, 1, 0] rfl)
set_option maxHeartbeats 4000000 in
set_option maxRecDepth 100000 in
theorem kX4_mostFrom (l : Launch) (D : va_G) (G : Nat → ClassId) (fu : Nat) (q_t q_t_most : Nat) (t_most : Nat → Int32) (v1 : Int32) (v2 : Int32) (v3 : Int32) {r : Int32} (hf : fX4_mostFrom fu t_most v1 v2 v3 = some r) : rO l D G yX4_mostFrom cX4_mostFrom 7 (some .int) 2 80 [.ref q_t, .int v1, .int v2, .int v3] [(q_t, .inr (4, [.ref q_t_most])), (q_t_most, .inl (G 0, 448, .inl t_most))] (some (.int r)) := by
  refine rO_of (by decide) (Nat.le_of_ble_eq_true rfl) ?_
  intro p e s m args below meth c Q hx hb hml hown hts hK hn hP RET ls hl
  have RT : ∀ (a0_ : Int32), some a0_ = some r → ∀ (pc : Nat) (ls : Array Slot) (ins : Instr), decode cX4_mostFrom pc = .ok (ins, 1) → rk (some .int) (some (.int a0_)) ins → W p l e (kR 2 80) s m args below meth c s.heap [] 0 0 Q (F0 m pc ls [.int a0_]) := by
    intro a0_ hy; obtain rfl := sm1 hy
    exact RET
  have hown : s.vm.findClass RX4 = some m.cls := hown
  have hl : lv_has ls 7 [(0, .ref q_t), (1, .int v1), (2, .int v2), (3, .int v3)] := hl
  clear RET
  rw [fX4_mostFrom] at hf
  refine lv_iload_n hx hb dX4_mostFrom_0 rfl (lv_at hl 1 rfl) ?_
  refine lv_iconst (v := (1 : Int32)) hx hb dX4_mostFrom_1 (by decide) ?_
  refine lv_iadd hx hb dX4_mostFrom_2 ?_
  refine lv_bipush (v := (64 : Int32)) hx hb dX4_mostFrom_3 (by decide) ?_
  refine lv_imul hx hb dX4_mostFrom_5 ?_
  refine lv_topi (fun y1 ey1 => ?_)
  have hf := nmeU ey1 hf
  refine lv_istore (lv' := [(4, .int y1), (0, .ref q_t), (1, .int v1), (2, .int v2), (3, .int v3)]) hx hb dX4_mostFrom_6 hl (by decide) rfl (fun ls hl => ?_)
  refine lv_aload_n hx hb dX4_mostFrom_8 rfl (lv_at hl 1 rfl) ?_
  refine va_get (D := D) (ci := 4) (v := .ref q_t_most) (C := RX4) (T := TX4) (N := 1) hx hb hts inX4 hown hK hP 0 rfl rfl 0 (by decide) (hts _ lfX4_9) (fun _ h9 => h9) rfl dX4_mostFrom_9 ?_
  refine lv_iload hx hb dX4_mostFrom_12 (lv_at hl 0 rfl) ?_
  refine lv_iload_n hx hb dX4_mostFrom_14 rfl (lv_at hl 3 rfl) ?_
  refine lv_iadd hx hb dX4_mostFrom_15 ?_
  obtain ⟨x2, ex2, ix2, hf⟩ := ldIE hf
  refine k_iald hx hb hK hP 1 0 rfl rfl ix2 ex2 dX4_mostFrom_16 ?_
  refine lv_istore (lv' := [(5, .int x2), (4, .int y1), (0, .ref q_t), (1, .int v1), (2, .int v2), (3, .int v3)]) hx hb dX4_mostFrom_17 hl (by decide) rfl (fun ls hl => ?_)
  refine lv_iconst (v := (0 : Int32)) hx hb dX4_mostFrom_19 (by decide) ?_
  refine lv_istore (lv' := [(6, .int (0 : Int32)), (5, .int x2), (4, .int y1), (0, .ref q_t), (1, .int v1), (2, .int v2), (3, .int v3)]) hx hb dX4_mostFrom_20 hl (by decide) rfl (fun ls hl => ?_)
  obtain ⟨u23, h27, hf⟩ := bd1E hf
  have E24 : ∀ (z42 : Int32), some z42 = some u23 → ∀ ls : Array Slot, lv_has ls 7 [(5, .int z42)] → W p l e (kR 2 80) s m args below meth c s.heap [] 0 0 Q (F0 m 72 ls []) := by
    intro z42 hy; obtain rfl := sm1 hy
    intro ls hl
    refine lv_iload hx hb dX4_mostFrom_72 (lv_at hl 0 rfl) ?_
    exact RT _ hf _ _ _ dX4_mostFrom_74 (rkI _)
  have L25 : ∀ (k : Nat) (w21 : Int32) (w22 : Int32), fX4_mostFrom_22 v3 v2 t_most y1 k w21 w22 = some u23 → ∀ ls : Array Slot, lv_has ls 7 [(0, .ref q_t), (2, .int v2), (3, .int v3), (4, .int y1), (5, .int w21), (6, .int w22)] → W p l e (kR 2 80) s m args below meth c s.heap [] 0 0 Q (F0 m 22 ls []) := by
    intro k; induction k with
    | zero => intro w21 w22 hf; exact nosome hf
    | succ k ih =>
      intro w21 w22 hf; rw [fX4_mostFrom_22] at hf
      intro ls hl
      refine lv_iload hx hb dX4_mostFrom_22 (lv_at hl 5 rfl) ?_
      refine lv_bipush (v := (6 : Int32)) hx hb dX4_mostFrom_24 (by decide) ?_
      refine lv_icmp_ge (tgt := 72) hx hb dX4_mostFrom_26 (by decide) (fun c30 => ?_) (fun c30 => ?_)
      · have hf := ifp c30 hf
        exact E24 _ hf ls (lv_sub hl [4] rfl)
      · have hf := ifn c30 hf
        refine lv_iload_n hx hb dX4_mostFrom_29 rfl (lv_at hl 2 rfl) ?_
        refine lv_iload_n hx hb dX4_mostFrom_30 rfl (lv_at hl 1 rfl) ?_
        refine lv_iconst (v := (-1 : Int32)) hx hb dX4_mostFrom_31 (by decide) ?_
        refine lv_ixor hx hb dX4_mostFrom_32 ?_
        refine lv_iand hx hb dX4_mostFrom_33 ?_
        refine lv_iload hx hb dX4_mostFrom_34 (lv_at hl 5 rfl) ?_
        refine lv_ishr hx hb dX4_mostFrom_36 ?_
        refine lv_iconst (v := (1 : Int32)) hx hb dX4_mostFrom_37 (by decide) ?_
        refine lv_iand hx hb dX4_mostFrom_38 ?_
        refine lv_iconst (v := (1 : Int32)) hx hb dX4_mostFrom_39 (by decide) ?_
        obtain ⟨j34, h41, hf⟩ := bd1E hf
        have E37 : ∀ (z35 : Int32), some z35 = some j34 → ∀ ls : Array Slot, lv_has ls 7 [(0, .ref q_t), (2, .int v2), (3, .int v3), (4, .int y1), (5, .int z35), (6, .int w22)] → W p l e (kR 2 80) s m args below meth c s.heap [] 0 0 Q (F0 m 66 ls []) := by
          intro z35 hy; obtain rfl := sm1 hy
          intro ls hl
          obtain ⟨y36, ey36⟩ : ∃ y : Int32, y = w22 + (1 : Int32) := ⟨_, rfl⟩
          have hf := nmeU ey36 hf
          refine lv_iinc (v := y36) (lv' := [(6, .int y36), (0, .ref q_t), (2, .int v2), (3, .int v3), (4, .int y1), (5, .int z35)]) hx hb dX4_mostFrom_66 hl (k := 5) rfl (by rw [ey36]; rfl) (by decide) rfl (fun ls hl => ?_)
          refine lv_goto (tgt := 22) hx hb dX4_mostFrom_69 (by decide) ?_
          exact ih _ _ hf ls (lv_sub hl [1, 2, 3, 4, 5, 0] rfl)
        have hf := h41
        refine lv_icmp_ne (tgt := 66) hx hb dX4_mostFrom_40 (by decide) (fun c38 => ?_) (fun c38 => ?_)
        · have hf := ifn c38 hf
          exact E37 _ hf ls (lv_sub hl [0, 1, 2, 3, 4, 5] rfl)
        · have hf := ifp c38 hf
          refine lv_iload hx hb dX4_mostFrom_43 (lv_at hl 4 rfl) ?_
          refine lv_iconst (v := (1 : Int32)) hx hb dX4_mostFrom_45 (by decide) ?_
          refine lv_aload_n hx hb dX4_mostFrom_46 rfl (lv_at hl 0 rfl) ?_
          refine va_get (D := D) (ci := 4) (v := .ref q_t_most) (C := RX4) (T := TX4) (N := 1) hx hb hts inX4 hown hK hP 0 rfl rfl 0 (by decide) (hts _ lfX4_9) (fun _ h9 => h9) rfl dX4_mostFrom_47 ?_
          refine lv_iload hx hb dX4_mostFrom_50 (lv_at hl 3 rfl) ?_
          refine lv_iload_n hx hb dX4_mostFrom_52 rfl (lv_at hl 1 rfl) ?_
          refine lv_iconst (v := (1 : Int32)) hx hb dX4_mostFrom_53 (by decide) ?_
          refine lv_iload hx hb dX4_mostFrom_54 (lv_at hl 5 rfl) ?_
          refine lv_ishl hx hb dX4_mostFrom_56 ?_
          refine lv_ior hx hb dX4_mostFrom_57 ?_
          refine lv_iadd hx hb dX4_mostFrom_58 ?_
          obtain ⟨x39, ex39, ix39, hf⟩ := ldIE hf
          refine k_iald hx hb hK hP 1 0 rfl rfl ix39 ex39 dX4_mostFrom_59 ?_
          refine lv_iadd hx hb dX4_mostFrom_60 ?_
          refine va_mmax hx hb (hml.trans hl.1.symm) hown (hts _ lmX4_28) (hts _ ks_max_int) (hts _ niJ9) (hts _ kc_max_int) (Nat.le_of_ble_eq_true rfl) (Nat.le_of_ble_eq_true rfl) (Nat.le_of_ble_eq_true rfl) (Nat.le_of_ble_eq_true rfl) dX4_mostFrom_61 ?_
          refine lv_topi (fun y40 ey40 => ?_)
          have hf := nmeU ey40 hf
          refine lv_istore (lv' := [(5, .int y40), (0, .ref q_t), (2, .int v2), (3, .int v3), (4, .int y1), (6, .int w22)]) hx hb dX4_mostFrom_64 hl (by decide) rfl (fun ls hl => ?_)
          exact E37 _ hf ls (lv_sub hl [1, 2, 3, 4, 0, 5] rfl)
  exact L25 fu x2 (0 : Int32) h27 ls (lv_sub hl [3, 5, 6, 2, 1, 0] rfl)
set_option maxHeartbeats 4000000 in
set_option maxRecDepth 100000 in
theorem kX4_mostSeated (l : Launch) (D : va_G) (G : Nat → ClassId) (q_t q_t_most : Nat) (t_most : Nat → Int32) {r : Int32} (hf : fX4_mostSeated t_most = some r) : rO l D G yX4_mostSeated cX4_mostSeated 1 (some .int) 1 60 [.ref q_t] [(q_t, .inr (4, [.ref q_t_most])), (q_t_most, .inl (G 0, 448, .inl t_most))] (some (.int r)) := by
  refine rO_of (by decide) (Nat.le_of_ble_eq_true rfl) ?_
  intro p e s m args below meth c Q hx hb hml hown hts hK hn hP RET ls hl
  have RT : ∀ (a0_ : Int32), some a0_ = some r → ∀ (pc : Nat) (ls : Array Slot) (ins : Instr), decode cX4_mostSeated pc = .ok (ins, 1) → rk (some .int) (some (.int a0_)) ins → W p l e (kR 1 60) s m args below meth c s.heap [] 0 0 Q (F0 m pc ls [.int a0_]) := by
    intro a0_ hy; obtain rfl := sm1 hy
    exact RET
  have hown : s.vm.findClass RX4 = some m.cls := hown
  have hl : lv_has ls 1 [(0, .ref q_t)] := hl
  clear RET
  rw [fX4_mostSeated] at hf
  refine lv_aload_n hx hb dX4_mostSeated_0 rfl (lv_at hl 0 rfl) ?_
  refine va_get (D := D) (ci := 4) (v := .ref q_t_most) (C := RX4) (T := TX4) (N := 1) hx hb hts inX4 hown hK hP 0 rfl rfl 0 (by decide) (hts _ lfX4_9) (fun _ h9 => h9) rfl dX4_mostSeated_1 ?_
  refine lv_iconst (v := (0 : Int32)) hx hb dX4_mostSeated_4 (by decide) ?_
  obtain ⟨x1, ex1, ix1, hf⟩ := ldIE hf
  refine k_iald hx hb hK hP 1 0 rfl rfl ix1 ex1 dX4_mostSeated_5 ?_
  exact RT _ hf _ _ _ dX4_mostSeated_6 (rkI _)
set_option maxHeartbeats 4000000 in
set_option maxRecDepth 100000 in
theorem kX4_seatOf (l : Launch) (D : va_G) (G : Nat → ClassId) (fu : Nat) (q_t q_p2 q_t_most q_p2_ills q_p2_roomOf q_p2_effects q_p2_badFor q_p2_likes q_p2_sights : Nat) (t_most : Nat → Int32) (p2_there : Int32) (p2_sat : Int32) (p2_hour : Int32) (p2_likes : Nat → Int32) (v1 : Int32) {r : Int32} (hf : fX4_seatOf fu t_most p2_there p2_likes v1 = some r) : rO l D G yX4_seatOf cX4_seatOf 6 (some .int) 2 85 [.ref q_t, .int v1, .ref q_p2] [(q_t, .inr (4, [.ref q_t_most])), (q_t_most, .inl (G 0, 448, .inl t_most)), (q_p2, .inr (1, [.int p2_there, .int p2_sat, .int p2_hour, .ref q_p2_ills, .ref q_p2_roomOf, .ref q_p2_effects, .ref q_p2_badFor, .ref q_p2_likes, .ref q_p2_sights])), (q_p2_likes, .inl (G 0, 6, .inl p2_likes))] (some (.int r)) := by
  refine rO_of (by decide) (Nat.le_of_ble_eq_true rfl) ?_
  intro p e s m args below meth c Q hx hb hml hown hts hK hn hP RET ls hl
  have RT : ∀ (a0_ : Int32), some a0_ = some r → ∀ (pc : Nat) (ls : Array Slot) (ins : Instr), decode cX4_seatOf pc = .ok (ins, 1) → rk (some .int) (some (.int a0_)) ins → W p l e (kR 2 85) s m args below meth c s.heap [] 0 0 Q (F0 m pc ls [.int a0_]) := by
    intro a0_ hy; obtain rfl := sm1 hy
    exact RET
  have hown : s.vm.findClass RX4 = some m.cls := hown
  have hl : lv_has ls 6 [(0, .ref q_t), (1, .int v1), (2, .ref q_p2)] := hl
  clear RET
  rw [fX4_seatOf] at hf
  refine lv_iconst (v := (0 : Int32)) hx hb dX4_seatOf_0 (by decide) ?_
  refine lv_istore_n (lv' := [(3, .int (0 : Int32)), (0, .ref q_t), (1, .int v1), (2, .ref q_p2)]) hx hb dX4_seatOf_1 rfl hl (by decide) rfl (fun ls hl => ?_)
  refine lv_bipush (v := (-6 : Int32)) hx hb dX4_seatOf_2 (by decide) ?_
  refine lv_istore (lv' := [(4, .int (-6 : Int32)), (3, .int (0 : Int32)), (0, .ref q_t), (1, .int v1), (2, .ref q_p2)]) hx hb dX4_seatOf_4 hl (by decide) rfl (fun ls hl => ?_)
  refine lv_iconst (v := (0 : Int32)) hx hb dX4_seatOf_6 (by decide) ?_
  refine lv_istore (lv' := [(5, .int (0 : Int32)), (4, .int (-6 : Int32)), (3, .int (0 : Int32)), (0, .ref q_t), (1, .int v1), (2, .ref q_p2)]) hx hb dX4_seatOf_7 hl (by decide) rfl (fun ls hl => ?_)
  obtain ⟨u25, h29, hf⟩ := bd1E hf
  have E26 : ∀ (z44 : Int32), some z44 = some u25 → ∀ ls : Array Slot, lv_has ls 6 [(4, .int z44)] → W p l e (kR 2 85) s m args below meth c s.heap [] 0 0 Q (F0 m 60 ls []) := by
    intro z44 hy; obtain rfl := sm1 hy
    intro ls hl
    refine lv_iload hx hb dX4_seatOf_60 (lv_at hl 0 rfl) ?_
    exact RT _ hf _ _ _ dX4_seatOf_62 (rkI _)
  have L27 : ∀ (k : Nat) (w22 : Int32) (w23 : Int32) (w24 : Int32), fX4_seatOf_9 fu v1 p2_likes t_most p2_there k w22 w23 w24 = some u25 → ∀ ls : Array Slot, lv_has ls 6 [(0, .ref q_t), (1, .int v1), (2, .ref q_p2), (3, .int w22), (4, .int w23), (5, .int w24)] → W p l e (kR 2 85) s m args below meth c s.heap [] 0 0 Q (F0 m 9 ls []) := by
    intro k; induction k with
    | zero => intro w22 w23 w24 hf; exact nosome hf
    | succ k ih =>
      intro w22 w23 w24 hf; rw [fX4_seatOf_9] at hf
      intro ls hl
      refine lv_iload hx hb dX4_seatOf_9 (lv_at hl 5 rfl) ?_
      refine lv_iload_n hx hb dX4_seatOf_11 rfl (lv_at hl 1 rfl) ?_
      refine lv_icmp_gt (tgt := 60) hx hb dX4_seatOf_12 (by decide) (fun c32 => ?_) (fun c32 => ?_)
      · have hf := ifp c32 hf
        exact E26 _ hf ls (lv_sub hl [4] rfl)
      · have hf := ifn c32 hf
        refine lv_aload_n hx hb dX4_seatOf_15 rfl (lv_at hl 0 rfl) ?_
        refine lv_iload hx hb dX4_seatOf_16 (lv_at hl 5 rfl) ?_
        refine lv_iload_n hx hb dX4_seatOf_18 rfl (lv_at hl 3 rfl) ?_
        refine lv_aload_n hx hb dX4_seatOf_19 rfl (lv_at hl 2 rfl) ?_
        refine va_get (D := D) (ci := 1) (v := .ref q_p2_likes) (C := RX1) (T := TX1) (N := 9) hx hb hts inX1 hown hK hP 2 rfl rfl 7 (by decide) (hts _ lfX4_15) (fun _ h9 => h9) rfl dX4_seatOf_20 ?_
        refine lv_iload hx hb dX4_seatOf_23 (lv_at hl 5 rfl) ?_
        obtain ⟨x33, ex33, ix33, hf⟩ := ldIE hf
        refine k_iald hx hb hK hP 3 0 rfl rfl ix33 ex33 dX4_seatOf_25 ?_
        refine lv_aload_n hx hb dX4_seatOf_26 rfl (lv_at hl 2 rfl) ?_
        refine va_get (D := D) (ci := 1) (v := .int p2_there) (C := RX1) (T := TX1) (N := 9) hx hb hts inX1 hown hK hP 2 rfl rfl 0 (by decide) (hts _ lfX4_20) (fun _ h9 => h9) rfl dX4_seatOf_27 ?_
        refine lv_iand hx hb dX4_seatOf_30 ?_
        obtain ⟨r34, h35, hf⟩ := bd1E hf
        refine kO_virt hx hb hml hown hts hK hn hP (kX4_leastSeat l D G fu q_t q_t_most t_most w24 w22 (x33 &&& p2_there) h35) cvX4_34 ⟨Nat.le_of_ble_eq_true rfl, Nat.le_of_ble_eq_true rfl⟩ [0, 1] rfl 0 rfl rfl rfl hl.1 rfl (Nat.le_of_ble_eq_true rfl) ⟨Nat.zero_le _, Nat.zero_le _⟩ dX4_seatOf_31 ?_
        refine lv_istore (lv' := [(4, .int r34), (0, .ref q_t), (1, .int v1), (2, .ref q_p2), (3, .int w22), (5, .int w24)]) hx hb dX4_seatOf_34 hl (by decide) rfl (fun ls hl => ?_)
        refine lv_iload_n hx hb dX4_seatOf_36 rfl (lv_at hl 4 rfl) ?_
        refine lv_iload hx hb dX4_seatOf_37 (lv_at hl 0 rfl) ?_
        refine lv_bipush (v := (-6 : Int32)) hx hb dX4_seatOf_39 (by decide) ?_
        obtain ⟨j37, h43, hf⟩ := bd1E hf
        have E41 : ∀ (z38 : Int32), some z38 = some j37 → ∀ ls : Array Slot, lv_has ls 6 [(0, .ref q_t), (1, .int v1), (2, .ref q_p2), (4, .int r34), (5, .int w24)] → W p l e (kR 2 85) s m args below meth c s.heap [] 0 0 Q (F0 m 52 ls [.int z38, .int w22]) := by
          intro z38 hy; obtain rfl := sm1 hy
          intro ls hl
          refine lv_ior hx hb dX4_seatOf_52 ?_
          refine lv_topi (fun y39 ey39 => ?_)
          have hf := nmeU ey39 hf
          refine lv_istore_n (lv' := [(3, .int y39), (0, .ref q_t), (1, .int v1), (2, .ref q_p2), (4, .int r34), (5, .int w24)]) hx hb dX4_seatOf_53 rfl hl (by decide) rfl (fun ls hl => ?_)
          obtain ⟨y40, ey40⟩ : ∃ y : Int32, y = w24 + (1 : Int32) := ⟨_, rfl⟩
          have hf := nmeU ey40 hf
          refine lv_iinc (v := y40) (lv' := [(5, .int y40), (3, .int y39), (0, .ref q_t), (1, .int v1), (2, .ref q_p2), (4, .int r34)]) hx hb dX4_seatOf_54 hl (k := 5) rfl (by rw [ey40]; rfl) (by decide) rfl (fun ls hl => ?_)
          refine lv_goto (tgt := 9) hx hb dX4_seatOf_57 (by decide) ?_
          exact ih _ _ _ hf ls (lv_sub hl [2, 3, 4, 1, 5, 0] rfl)
        have hf := h43
        refine lv_icmp_ne (tgt := 48) hx hb dX4_seatOf_41 (by decide) (fun c42 => ?_) (fun c42 => ?_)
        · have hf := ifn c42 hf
          refine lv_iconst (v := (1 : Int32)) hx hb dX4_seatOf_48 (by decide) ?_
          refine lv_iload hx hb dX4_seatOf_49 (lv_at hl 0 rfl) ?_
          refine lv_ishl hx hb dX4_seatOf_51 ?_
          exact E41 _ hf ls (lv_sub hl [1, 2, 3, 0, 5] rfl)
        · have hf := ifp c42 hf
          refine lv_iconst (v := (0 : Int32)) hx hb dX4_seatOf_44 (by decide) ?_
          refine lv_goto (tgt := 52) hx hb dX4_seatOf_45 (by decide) ?_
          exact E41 _ hf ls (lv_sub hl [1, 2, 3, 0, 5] rfl)
  exact L27 fu (0 : Int32) (-6 : Int32) (0 : Int32) h29 ls (lv_sub hl [3, 4, 5, 2, 1, 0] rfl)
set_option maxHeartbeats 4000000 in
set_option maxRecDepth 100000 in
theorem kX4_weigh (l : Launch) (D : va_G) (G : Nat → ClassId) (fu : Nat) (q_t q_p1 q_t_most q_p1_ills q_p1_roomOf q_p1_effects q_p1_badFor q_p1_likes q_p1_sights : Nat) (t_most : Nat → Int32) (p1_there : Int32) (p1_sat : Int32) (p1_hour : Int32) (p1_likes : Nat → Int32) {o_t_most : Nat → Int32} (hf : fX4_weigh fu t_most p1_there p1_likes = some o_t_most) : rW l D G yX4_weigh cX4_weigh 5 none 3 106 [.ref q_t, .ref q_p1] [(q_t, .inr (4, [.ref q_t_most])), (q_t_most, .inl (G 0, 448, .inl t_most)), (q_p1, .inr (1, [.int p1_there, .int p1_sat, .int p1_hour, .ref q_p1_ills, .ref q_p1_roomOf, .ref q_p1_effects, .ref q_p1_badFor, .ref q_p1_likes, .ref q_p1_sights])), (q_p1_likes, .inl (G 0, 6, .inl p1_likes))] [(q_t, .inr (4, [.ref q_t_most])), (q_t_most, .inl (G 0, 448, .inl o_t_most)), (q_p1, .inr (1, [.int p1_there, .int p1_sat, .int p1_hour, .ref q_p1_ills, .ref q_p1_roomOf, .ref q_p1_effects, .ref q_p1_badFor, .ref q_p1_likes, .ref q_p1_sights])), (q_p1_likes, .inl (G 0, 6, .inl p1_likes))] none := by
  refine rW_of (by decide) (Nat.le_of_ble_eq_true rfl) ?_
  intro p e s m args below meth c Q A hx hb hml hown hts hK hn hA RET H locs hP hD hS ls hl
  have RT : ∀ (a0_ : Nat → Int32), some a0_ = some o_t_most → ∀ (pc : Nat) (ls : Array Slot) (ins : Instr) (H : Heap) (locs : List Loc), decode cX4_weigh pc = .ok (ins, 1) → rk none none ins → va_P D vwCl [(q_t, .inr (4, [.ref q_t_most])), (q_t_most, .inl (G 0, 448, .inl a0_)), (q_p1, .inr (1, [.int p1_there, .int p1_sat, .int p1_hour, .ref q_p1_ills, .ref q_p1_roomOf, .ref q_p1_effects, .ref q_p1_badFor, .ref q_p1_likes, .ref q_p1_sights])), (q_p1_likes, .inl (G 0, 6, .inl p1_likes))] H → va_D A [(q_t, .inr (4, [.ref q_t_most])), (q_t_most, .inl (G 0, 448, .inl a0_)), (q_p1, .inr (1, [.int p1_there, .int p1_sat, .int p1_hour, .ref q_p1_ills, .ref q_p1_roomOf, .ref q_p1_effects, .ref q_p1_badFor, .ref q_p1_likes, .ref q_p1_sights])), (q_p1_likes, .inl (G 0, 6, .inl p1_likes))] → va_S A s.heap H locs → W p l e (kR 3 106) s m args below meth c H locs 0 0 Q (F0 m pc ls []) := by
    intro a0_ hy; obtain rfl := sm1 hy
    exact RET
  have hown : s.vm.findClass RX4 = some m.cls := hown
  have hl : lv_has ls 5 [(0, .ref q_t), (1, .ref q_p1)] := hl
  clear RET
  rw [fX4_weigh] at hf
  refine lv_iconst (v := (5 : Int32)) hx hb dX4_weigh_0 (by decide) ?_
  refine lv_istore_n (lv' := [(2, .int (5 : Int32)), (0, .ref q_t), (1, .ref q_p1)]) hx hb dX4_weigh_1 rfl hl (by decide) rfl (fun ls hl => ?_)
  obtain ⟨u41, h45, hf⟩ := bd1E hf
  have E42 : ∀ (z80 : Nat → Int32), some z80 = some u41 → ∀ (H : Heap) (locs : List Loc), va_P D vwCl [(q_t, .inr (4, [.ref q_t_most])), (q_t_most, .inl (G 0, 448, .inl z80)), (q_p1, .inr (1, [.int p1_there, .int p1_sat, .int p1_hour, .ref q_p1_ills, .ref q_p1_roomOf, .ref q_p1_effects, .ref q_p1_badFor, .ref q_p1_likes, .ref q_p1_sights])), (q_p1_likes, .inl (G 0, 6, .inl p1_likes))] H → va_D A [(q_t, .inr (4, [.ref q_t_most])), (q_t_most, .inl (G 0, 448, .inl z80)), (q_p1, .inr (1, [.int p1_there, .int p1_sat, .int p1_hour, .ref q_p1_ills, .ref q_p1_roomOf, .ref q_p1_effects, .ref q_p1_badFor, .ref q_p1_likes, .ref q_p1_sights])), (q_p1_likes, .inl (G 0, 6, .inl p1_likes))] → va_S A s.heap H locs → ∀ ls : Array Slot, lv_has ls 5 [] → W p l e (kR 3 106) s m args below meth c H locs 0 0 Q (F0 m 60 ls []) := by
    intro z80 hy; obtain rfl := sm1 hy
    intro H locs hP hD hS ls hl
    exact RT _ hf _ _ _ H locs dX4_weigh_60 rkV hP hD hS
  have L43 : ∀ (k : Nat) (w39 : Int32) (w40 : Nat → Int32), fX4_weigh_2 fu p1_likes p1_there k w39 w40 = some u41 → ∀ (H : Heap) (locs : List Loc), va_P D vwCl [(q_t, .inr (4, [.ref q_t_most])), (q_t_most, .inl (G 0, 448, .inl w40)), (q_p1, .inr (1, [.int p1_there, .int p1_sat, .int p1_hour, .ref q_p1_ills, .ref q_p1_roomOf, .ref q_p1_effects, .ref q_p1_badFor, .ref q_p1_likes, .ref q_p1_sights])), (q_p1_likes, .inl (G 0, 6, .inl p1_likes))] H → va_D A [(q_t, .inr (4, [.ref q_t_most])), (q_t_most, .inl (G 0, 448, .inl w40)), (q_p1, .inr (1, [.int p1_there, .int p1_sat, .int p1_hour, .ref q_p1_ills, .ref q_p1_roomOf, .ref q_p1_effects, .ref q_p1_badFor, .ref q_p1_likes, .ref q_p1_sights])), (q_p1_likes, .inl (G 0, 6, .inl p1_likes))] → va_S A s.heap H locs → ∀ ls : Array Slot, lv_has ls 5 [(0, .ref q_t), (1, .ref q_p1), (2, .int w39)] → W p l e (kR 3 106) s m args below meth c H locs 0 0 Q (F0 m 2 ls []) := by
    intro k; induction k with
    | zero => intro w39 w40 hf; exact nosome hf
    | succ k ih =>
      intro w39 w40 hf; rw [fX4_weigh_2] at hf
      intro H locs hP hD hS ls hl
      refine lv_iload_n hx hb dX4_weigh_2 rfl (lv_at hl 2 rfl) ?_
      refine lv_if_lt (tgt := 60) hx hb dX4_weigh_3 (by decide) (fun c48 => ?_) (fun c48 => ?_)
      · have hf := ifp c48 hf
        exact E42 _ hf H locs hP hD hS ls (lv_sub hl [] rfl)
      · have hf := ifn c48 hf
        refine lv_aload_n hx hb dX4_weigh_6 rfl (lv_at hl 1 rfl) ?_
        refine va_get (D := D) (ci := 1) (v := .ref q_p1_likes) (C := RX1) (T := TX1) (N := 9) hx hb hts inX1 hown hK hP 2 rfl rfl 7 (by decide) (hts _ lfX4_15) (fun _ h9 => h9) rfl dX4_weigh_7 ?_
        refine lv_iload_n hx hb dX4_weigh_10 rfl (lv_at hl 2 rfl) ?_
        obtain ⟨x49, ex49, ix49, hf⟩ := ldIE hf
        refine k_iald hx hb hK hP 3 0 rfl rfl ix49 ex49 dX4_weigh_11 ?_
        refine lv_aload_n hx hb dX4_weigh_12 rfl (lv_at hl 1 rfl) ?_
        refine va_get (D := D) (ci := 1) (v := .int p1_there) (C := RX1) (T := TX1) (N := 9) hx hb hts inX1 hown hK hP 2 rfl rfl 0 (by decide) (hts _ lfX4_20) (fun _ h9 => h9) rfl dX4_weigh_13 ?_
        refine lv_iand hx hb dX4_weigh_16 ?_
        refine lv_topi (fun y50 ey50 => ?_)
        have hf := nmeU ey50 hf
        refine lv_istore_n (lv' := [(3, .int y50), (0, .ref q_t), (1, .ref q_p1), (2, .int w39)]) hx hb dX4_weigh_17 rfl hl (by decide) rfl (fun ls hl => ?_)
        refine lv_iconst (v := (0 : Int32)) hx hb dX4_weigh_18 (by decide) ?_
        refine lv_istore (lv' := [(4, .int (0 : Int32)), (3, .int y50), (0, .ref q_t), (1, .ref q_p1), (2, .int w39)]) hx hb dX4_weigh_19 hl (by decide) rfl (fun ls hl => ?_)
        obtain ⟨u66, h70, hf⟩ := bd1E hf
        have E67 : ∀ (z78 : Nat → Int32), some z78 = some u66 → ∀ (H : Heap) (locs : List Loc), va_P D vwCl [(q_t, .inr (4, [.ref q_t_most])), (q_t_most, .inl (G 0, 448, .inl z78)), (q_p1, .inr (1, [.int p1_there, .int p1_sat, .int p1_hour, .ref q_p1_ills, .ref q_p1_roomOf, .ref q_p1_effects, .ref q_p1_badFor, .ref q_p1_likes, .ref q_p1_sights])), (q_p1_likes, .inl (G 0, 6, .inl p1_likes))] H → va_D A [(q_t, .inr (4, [.ref q_t_most])), (q_t_most, .inl (G 0, 448, .inl z78)), (q_p1, .inr (1, [.int p1_there, .int p1_sat, .int p1_hour, .ref q_p1_ills, .ref q_p1_roomOf, .ref q_p1_effects, .ref q_p1_badFor, .ref q_p1_likes, .ref q_p1_sights])), (q_p1_likes, .inl (G 0, 6, .inl p1_likes))] → va_S A s.heap H locs → ∀ ls : Array Slot, lv_has ls 5 [(0, .ref q_t), (1, .ref q_p1), (2, .int w39)] → W p l e (kR 3 106) s m args below meth c H locs 0 0 Q (F0 m 54 ls []) := by
          intro z78 hy; obtain rfl := sm1 hy
          intro H locs hP hD hS ls hl
          obtain ⟨y79, ey79⟩ : ∃ y : Int32, y = w39 + (-1 : Int32) := ⟨_, rfl⟩
          have hf := nmeU ey79 hf
          refine lv_iinc (v := y79) (lv' := [(2, .int y79), (0, .ref q_t), (1, .ref q_p1)]) hx hb dX4_weigh_54 hl (k := 2) rfl (by rw [ey79]; rfl) (by decide) rfl (fun ls hl => ?_)
          refine lv_goto (tgt := 2) hx hb dX4_weigh_57 (by decide) ?_
          exact ih _ _ hf H locs hP hD hS ls (lv_sub hl [1, 2, 0] rfl)
        have L68 : ∀ (k : Nat) (w64 : Int32) (w65 : Nat → Int32), fX4_weigh_21 fu w39 y50 k w64 w65 = some u66 → ∀ (H : Heap) (locs : List Loc), va_P D vwCl [(q_t, .inr (4, [.ref q_t_most])), (q_t_most, .inl (G 0, 448, .inl w65)), (q_p1, .inr (1, [.int p1_there, .int p1_sat, .int p1_hour, .ref q_p1_ills, .ref q_p1_roomOf, .ref q_p1_effects, .ref q_p1_badFor, .ref q_p1_likes, .ref q_p1_sights])), (q_p1_likes, .inl (G 0, 6, .inl p1_likes))] H → va_D A [(q_t, .inr (4, [.ref q_t_most])), (q_t_most, .inl (G 0, 448, .inl w65)), (q_p1, .inr (1, [.int p1_there, .int p1_sat, .int p1_hour, .ref q_p1_ills, .ref q_p1_roomOf, .ref q_p1_effects, .ref q_p1_badFor, .ref q_p1_likes, .ref q_p1_sights])), (q_p1_likes, .inl (G 0, 6, .inl p1_likes))] → va_S A s.heap H locs → ∀ ls : Array Slot, lv_has ls 5 [(0, .ref q_t), (1, .ref q_p1), (2, .int w39), (3, .int y50), (4, .int w64)] → W p l e (kR 3 106) s m args below meth c H locs 0 0 Q (F0 m 21 ls []) := by
          intro k; induction k with
          | zero => intro w64 w65 hf; exact nosome hf
          | succ k ih =>
            intro w64 w65 hf; rw [fX4_weigh_21] at hf
            intro H locs hP hD hS ls hl
            refine lv_iload hx hb dX4_weigh_21 (lv_at hl 4 rfl) ?_
            refine lv_bipush (v := (64 : Int32)) hx hb dX4_weigh_23 (by decide) ?_
            refine lv_icmp_ge (tgt := 54) hx hb dX4_weigh_25 (by decide) (fun c73 => ?_) (fun c73 => ?_)
            · have hf := ifp c73 hf
              exact E67 _ hf H locs hP hD hS ls (lv_sub hl [0, 1, 2] rfl)
            · have hf := ifn c73 hf
              refine lv_aload_n hx hb dX4_weigh_28 rfl (lv_at hl 0 rfl) ?_
              refine va_get (D := D) (ci := 4) (v := .ref q_t_most) (C := RX4) (T := TX4) (N := 1) hx hb hts inX4 hown hK hP 0 rfl rfl 0 (by decide) (hts _ lfX4_9) (fun _ h9 => h9) rfl dX4_weigh_29 ?_
              refine lv_iload_n hx hb dX4_weigh_32 rfl (lv_at hl 2 rfl) ?_
              refine lv_bipush (v := (64 : Int32)) hx hb dX4_weigh_33 (by decide) ?_
              refine lv_imul hx hb dX4_weigh_35 ?_
              refine lv_iload hx hb dX4_weigh_36 (lv_at hl 4 rfl) ?_
              refine lv_iadd hx hb dX4_weigh_38 ?_
              refine lv_aload_n hx hb dX4_weigh_39 rfl (lv_at hl 0 rfl) ?_
              refine lv_iload_n hx hb dX4_weigh_40 rfl (lv_at hl 2 rfl) ?_
              refine lv_iload hx hb dX4_weigh_41 (lv_at hl 4 rfl) ?_
              refine lv_iload_n hx hb dX4_weigh_43 rfl (lv_at hl 3 rfl) ?_
              obtain ⟨r74, h75, hf⟩ := bd1E hf
              refine kO_virt hx hb hml hown hts hK hn hP (kX4_mostFrom l D G fu q_t q_t_most w65 w39 w64 y50 h75) cvX4_24 ⟨Nat.le_of_ble_eq_true rfl, Nat.le_of_ble_eq_true rfl⟩ [0, 1] rfl 0 rfl rfl rfl hl.1 rfl (Nat.le_of_ble_eq_true rfl) ⟨Nat.zero_le _, Nat.zero_le _⟩ dX4_weigh_44 ?_
              obtain ⟨g76, eg76, ig76, hf⟩ := stIE hf
              refine k_iast hx hb hK hP hD hS 1 0 rfl rfl ig76 eg76 dX4_weigh_47 (fun H locs hP hD hS => ?_)
              have hP : va_P D vwCl [(q_t, .inr (4, [.ref q_t_most])), (q_t_most, .inl (G 0, 448, .inl g76)), (q_p1, .inr (1, [.int p1_there, .int p1_sat, .int p1_hour, .ref q_p1_ills, .ref q_p1_roomOf, .ref q_p1_effects, .ref q_p1_badFor, .ref q_p1_likes, .ref q_p1_sights])), (q_p1_likes, .inl (G 0, 6, .inl p1_likes))] H := hP
              have hD : va_D A [(q_t, .inr (4, [.ref q_t_most])), (q_t_most, .inl (G 0, 448, .inl g76)), (q_p1, .inr (1, [.int p1_there, .int p1_sat, .int p1_hour, .ref q_p1_ills, .ref q_p1_roomOf, .ref q_p1_effects, .ref q_p1_badFor, .ref q_p1_likes, .ref q_p1_sights])), (q_p1_likes, .inl (G 0, 6, .inl p1_likes))] := hD
              obtain ⟨y77, ey77⟩ : ∃ y : Int32, y = w64 + (1 : Int32) := ⟨_, rfl⟩
              have hf := nmeU ey77 hf
              refine lv_iinc (v := y77) (lv' := [(4, .int y77), (0, .ref q_t), (1, .ref q_p1), (2, .int w39), (3, .int y50)]) hx hb dX4_weigh_48 hl (k := 4) rfl (by rw [ey77]; rfl) (by decide) rfl (fun ls hl => ?_)
              refine lv_goto (tgt := 21) hx hb dX4_weigh_51 (by decide) ?_
              exact ih _ _ hf H locs hP hD hS ls (lv_sub hl [1, 2, 3, 4, 0] rfl)
        exact L68 fu (0 : Int32) w40 h70 H locs hP hD hS ls (lv_sub hl [2, 3, 4, 1, 0] rfl)
  exact L43 fu (5 : Int32) t_most h45 H locs hP hD hS ls (lv_sub hl [1, 2, 0] rfl)
set_option maxHeartbeats 4000000 in
set_option maxRecDepth 100000 in
theorem kX5_laterIll (l : Launch) (D : va_G) (G : Nat → ClassId) (fu : Nat) (v0 : Int32) (v1 : Int32) (v2 : Int32) {r : Int32} (hf : fX5_laterIll fu v0 v1 v2 = some r) : rO l D G yX5_laterIll cX5_laterIll 5 (some .int) 2 80 [.int v0, .int v1, .int v2] [] (some (.int r)) := by
  refine rO_of (by decide) (Nat.le_of_ble_eq_true rfl) ?_
  intro p e s m args below meth c Q hx hb hml hown hts hK hn hP RET ls hl
  have RT : ∀ (a0_ : Int32), some a0_ = some r → ∀ (pc : Nat) (ls : Array Slot) (ins : Instr), decode cX5_laterIll pc = .ok (ins, 1) → rk (some .int) (some (.int a0_)) ins → W p l e (kR 2 80) s m args below meth c s.heap [] 0 0 Q (F0 m pc ls [.int a0_]) := by
    intro a0_ hy; obtain rfl := sm1 hy
    exact RET
  have hown : s.vm.findClass RX5 = some m.cls := hown
  have hl : lv_has ls 5 [(0, .int v0), (1, .int v1), (2, .int v2)] := hl
  clear RET
  rw [fX5_laterIll] at hf
  refine lv_iload_n hx hb dX5_laterIll_0 rfl (lv_at hl 0 rfl) ?_
  refine lv_istore_n (lv' := [(3, .int v0), (0, .int v0), (1, .int v1), (2, .int v2)]) hx hb dX5_laterIll_1 rfl hl (by decide) rfl (fun ls hl => ?_)
  refine lv_iconst (v := (0 : Int32)) hx hb dX5_laterIll_2 (by decide) ?_
  refine lv_istore (lv' := [(4, .int (0 : Int32)), (3, .int v0), (0, .int v0), (1, .int v1), (2, .int v2)]) hx hb dX5_laterIll_3 hl (by decide) rfl (fun ls hl => ?_)
  obtain ⟨u11, h15, hf⟩ := bd1E hf
  have E12 : ∀ (z22 : Int32), some z22 = some u11 → ∀ ls : Array Slot, lv_has ls 5 [(3, .int z22)] → W p l e (kR 2 80) s m args below meth c s.heap [] 0 0 Q (F0 m 24 ls []) := by
    intro z22 hy; obtain rfl := sm1 hy
    intro ls hl
    refine lv_iload_n hx hb dX5_laterIll_24 rfl (lv_at hl 0 rfl) ?_
    exact RT _ hf _ _ _ dX5_laterIll_25 (rkI _)
  have L13 : ∀ (k : Nat) (w9 : Int32) (w10 : Int32), fX5_laterIll_5 v1 v2 k w9 w10 = some u11 → ∀ ls : Array Slot, lv_has ls 5 [(1, .int v1), (2, .int v2), (3, .int w9), (4, .int w10)] → W p l e (kR 2 80) s m args below meth c s.heap [] 0 0 Q (F0 m 5 ls []) := by
    intro k; induction k with
    | zero => intro w9 w10 hf; exact nosome hf
    | succ k ih =>
      intro w9 w10 hf; rw [fX5_laterIll_5] at hf
      intro ls hl
      refine lv_iload hx hb dX5_laterIll_5 (lv_at hl 3 rfl) ?_
      refine lv_iload_n hx hb dX5_laterIll_7 rfl (lv_at hl 0 rfl) ?_
      refine lv_icmp_ge (tgt := 24) hx hb dX5_laterIll_8 (by decide) (fun c18 => ?_) (fun c18 => ?_)
      · have hf := ifp c18 hf
        exact E12 _ hf ls (lv_sub hl [2] rfl)
      · have hf := ifn c18 hf
        refine lv_iload_n hx hb dX5_laterIll_11 rfl (lv_at hl 2 rfl) ?_
        refine lv_iload_n hx hb dX5_laterIll_12 rfl (lv_at hl 1 rfl) ?_
        refine lv_iadd hx hb dX5_laterIll_13 ?_
        obtain ⟨r19, h20, hf⟩ := bd1E hf
        refine kO_nest hx hb hml hown hts hK hn hP (kX7_withinIll l D G (w9 + v2) h20) cnX5_43 ⟨Nat.le_of_ble_eq_true rfl, Nat.le_of_ble_eq_true rfl⟩ [] rfl rfl hl.1 rfl (Nat.le_of_ble_eq_true rfl) ⟨Nat.zero_le _, Nat.zero_le _⟩ dX5_laterIll_14 ?_
        refine lv_istore_n (lv' := [(3, .int r19), (1, .int v1), (2, .int v2), (4, .int w10)]) hx hb dX5_laterIll_17 rfl hl (by decide) rfl (fun ls hl => ?_)
        obtain ⟨y21, ey21⟩ : ∃ y : Int32, y = w10 + (1 : Int32) := ⟨_, rfl⟩
        have hf := nmeU ey21 hf
        refine lv_iinc (v := y21) (lv' := [(4, .int y21), (3, .int r19), (1, .int v1), (2, .int v2)]) hx hb dX5_laterIll_18 hl (k := 3) rfl (by rw [ey21]; rfl) (by decide) rfl (fun ls hl => ?_)
        refine lv_goto (tgt := 5) hx hb dX5_laterIll_21 (by decide) ?_
        exact ih _ _ hf ls (lv_sub hl [2, 3, 1, 0] rfl)
  exact L13 fu v0 (0 : Int32) h15 ls (lv_sub hl [3, 4, 1, 0] rfl)
set_option maxHeartbeats 4000000 in
set_option maxRecDepth 100000 in
theorem kX5_fits (l : Launch) (D : va_G) (G : Nat → ClassId) (fu : Nat) (q_t q_t_before q_t_hours q_t_after : Nat) (t_count : Int32) (t_before : Nat → Int32) (t_hours : Nat → Int32) (t_after : Nat → Int32) (v1 : Int32) {r : Int32} (hf : fX5_fits fu t_count t_before t_hours t_after v1 = some r) : rO l D G yX5_fits cX5_fits 3 (some .boolean) 3 104 [.ref q_t, .int v1] [(q_t, .inr (5, [.int t_count, .ref q_t_before, .ref q_t_hours, .ref q_t_after])), (q_t_before, .inl (G 0, 8, .inl t_before)), (q_t_hours, .inl (G 0, 8, .inl t_hours)), (q_t_after, .inl (G 0, 8, .inl t_after))] (some (.int r)) := by
  refine rO_of (by decide) (Nat.le_of_ble_eq_true rfl) ?_
  intro p e s m args below meth c Q hx hb hml hown hts hK hn hP RET ls hl
  have RT : ∀ (a0_ : Int32), some a0_ = some r → ∀ (pc : Nat) (ls : Array Slot) (ins : Instr), decode cX5_fits pc = .ok (ins, 1) → rk (some .boolean) (some (.int a0_)) ins → W p l e (kR 3 104) s m args below meth c s.heap [] 0 0 Q (F0 m pc ls [.int a0_]) := by
    intro a0_ hy; obtain rfl := sm1 hy
    exact RET
  have hown : s.vm.findClass RX5 = some m.cls := hown
  have hl : lv_has ls 3 [(0, .ref q_t), (1, .int v1)] := hl
  clear RET
  rw [fX5_fits] at hf
  refine lv_iconst (v := (0 : Int32)) hx hb dX5_fits_0 (by decide) ?_
  refine lv_istore_n (lv' := [(2, .int (0 : Int32)), (0, .ref q_t), (1, .int v1)]) hx hb dX5_fits_1 rfl hl (by decide) rfl (fun ls hl => ?_)
  obtain ⟨z19, h20, hr21, hc22⟩ := br0E hf
  have E17 : some (Sum.inr ()) = some z19 → ∀ ls : Array Slot, lv_has ls 3 [] → W p l e (kR 3 104) s m args below meth c s.heap [] 0 0 Q (F0 m 49 ls []) := by
    intro  hy; have hf := hc22  hy
    intro ls hl
    refine lv_iconst (v := (1 : Int32)) hx hb dX5_fits_49 (by decide) ?_
    exact RT _ hf _ _ _ dX5_fits_50 (rkZ (Or.inr rfl))
  have L18 : ∀ (k : Nat) (w16 : Int32), fX5_fits_2 fu t_count t_before t_hours v1 t_after k w16 = some z19 → ∀ ls : Array Slot, lv_has ls 3 [(0, .ref q_t), (1, .int v1), (2, .int w16)] → W p l e (kR 3 104) s m args below meth c s.heap [] 0 0 Q (F0 m 2 ls []) := by
    intro k; induction k with
    | zero => intro w16 hf; exact nosome hf
    | succ k ih =>
      intro w16 hf; rw [fX5_fits_2] at hf
      intro ls hl
      refine lv_iload_n hx hb dX5_fits_2 rfl (lv_at hl 2 rfl) ?_
      refine lv_aload_n hx hb dX5_fits_3 rfl (lv_at hl 0 rfl) ?_
      refine va_get (D := D) (ci := 5) (v := .int t_count) (C := RX5) (T := TX5) (N := 4) hx hb hts inX5 hown hK hP 0 rfl rfl 0 (by decide) (hts _ lfX5_21) (fun _ h9 => h9) rfl dX5_fits_4 ?_
      refine lv_icmp_ge (tgt := 49) hx hb dX5_fits_7 (by decide) (fun c23 => ?_) (fun c23 => ?_)
      · have hf := ifp c23 hf
        exact E17  hf ls (lv_sub hl [] rfl)
      · have hf := ifn c23 hf
        refine lv_iload_n hx hb dX5_fits_10 rfl (lv_at hl 2 rfl) ?_
        refine lv_bipush (v := (8 : Int32)) hx hb dX5_fits_11 (by decide) ?_
        refine lv_icmp_ge (tgt := 49) hx hb dX5_fits_13 (by decide) (fun c24 => ?_) (fun c24 => ?_)
        · have hf := ifp c24 hf
          exact E17  hf ls (lv_sub hl [] rfl)
        · have hf := ifn c24 hf
          refine lv_aload_n hx hb dX5_fits_16 rfl (lv_at hl 0 rfl) ?_
          refine va_get (D := D) (ci := 5) (v := .ref q_t_before) (C := RX5) (T := TX5) (N := 4) hx hb hts inX5 hown hK hP 0 rfl rfl 1 (by decide) (hts _ lfX5_11) (fun _ h9 => h9) rfl dX5_fits_17 ?_
          refine lv_iload_n hx hb dX5_fits_20 rfl (lv_at hl 2 rfl) ?_
          obtain ⟨x25, ex25, ix25, hf⟩ := ldIE hf
          refine k_iald hx hb hK hP 1 0 rfl rfl ix25 ex25 dX5_fits_21 ?_
          refine lv_aload_n hx hb dX5_fits_22 rfl (lv_at hl 0 rfl) ?_
          refine va_get (D := D) (ci := 5) (v := .ref q_t_hours) (C := RX5) (T := TX5) (N := 4) hx hb hts inX5 hown hK hP 0 rfl rfl 2 (by decide) (hts _ lfX5_15) (fun _ h9 => h9) rfl dX5_fits_23 ?_
          refine lv_iload_n hx hb dX5_fits_26 rfl (lv_at hl 2 rfl) ?_
          obtain ⟨x26, ex26, ix26, hf⟩ := ldIE hf
          refine k_iald hx hb hK hP 2 0 rfl rfl ix26 ex26 dX5_fits_27 ?_
          refine lv_iload_n hx hb dX5_fits_28 rfl (lv_at hl 1 rfl) ?_
          obtain ⟨r27, h28, hf⟩ := bd1E hf
          refine kO_stat hx hb hml hown hts hK hn hP (kX5_laterIll l D G fu x25 x26 v1 h28) csX5_39 ⟨Nat.le_of_ble_eq_true rfl, Nat.le_of_ble_eq_true rfl⟩ [] rfl rfl hl.1 rfl (Nat.le_of_ble_eq_true rfl) ⟨Nat.zero_le _, Nat.zero_le _⟩ dX5_fits_29 ?_
          refine lv_aload_n hx hb dX5_fits_32 rfl (lv_at hl 0 rfl) ?_
          refine va_get (D := D) (ci := 5) (v := .ref q_t_after) (C := RX5) (T := TX5) (N := 4) hx hb hts inX5 hown hK hP 0 rfl rfl 3 (by decide) (hts _ lfX5_18) (fun _ h9 => h9) rfl dX5_fits_33 ?_
          refine lv_iload_n hx hb dX5_fits_36 rfl (lv_at hl 2 rfl) ?_
          obtain ⟨x29, ex29, ix29, hf⟩ := ldIE hf
          refine k_iald hx hb hK hP 3 0 rfl rfl ix29 ex29 dX5_fits_37 ?_
          refine lv_icmp_eq (tgt := 43) hx hb dX5_fits_38 (by decide) (fun c30 => ?_) (fun c30 => ?_)
          · have hf := ifp c30 hf
            obtain ⟨y31, ey31⟩ : ∃ y : Int32, y = w16 + (1 : Int32) := ⟨_, rfl⟩
            have hf := nmeU ey31 hf
            refine lv_iinc (v := y31) (lv' := [(2, .int y31), (0, .ref q_t), (1, .int v1)]) hx hb dX5_fits_43 hl (k := 2) rfl (by rw [ey31]; rfl) (by decide) rfl (fun ls hl => ?_)
            refine lv_goto (tgt := 2) hx hb dX5_fits_46 (by decide) ?_
            exact ih _ hf ls (lv_sub hl [1, 2, 0] rfl)
          · have hf := ifn c30 hf
            refine lv_iconst (v := (0 : Int32)) hx hb dX5_fits_41 (by decide) ?_
            have hf := hr21 _ hf
            exact RT _ hf _ _ _ dX5_fits_42 (rkZ (Or.inl rfl))
  exact L18 fu (0 : Int32) h20 ls (lv_sub hl [1, 2, 0] rfl)
set_option maxHeartbeats 4000000 in
set_option maxRecDepth 100000 in
theorem kX5_fitting (l : Launch) (D : va_G) (G : Nat → ClassId) (fu : Nat) (q_t q_t_before q_t_hours q_t_after : Nat) (t_count : Int32) (t_before : Nat → Int32) (t_hours : Nat → Int32) (t_after : Nat → Int32) {r : Int32} (hf : fX5_fitting fu t_count t_before t_hours t_after = some r) : rO l D G yX5_fitting cX5_fitting 3 (some .int) 4 126 [.ref q_t] [(q_t, .inr (5, [.int t_count, .ref q_t_before, .ref q_t_hours, .ref q_t_after])), (q_t_before, .inl (G 0, 8, .inl t_before)), (q_t_hours, .inl (G 0, 8, .inl t_hours)), (q_t_after, .inl (G 0, 8, .inl t_after))] (some (.int r)) := by
  refine rO_of (by decide) (Nat.le_of_ble_eq_true rfl) ?_
  intro p e s m args below meth c Q hx hb hml hown hts hK hn hP RET ls hl
  have RT : ∀ (a0_ : Int32), some a0_ = some r → ∀ (pc : Nat) (ls : Array Slot) (ins : Instr), decode cX5_fitting pc = .ok (ins, 1) → rk (some .int) (some (.int a0_)) ins → W p l e (kR 4 126) s m args below meth c s.heap [] 0 0 Q (F0 m pc ls [.int a0_]) := by
    intro a0_ hy; obtain rfl := sm1 hy
    exact RET
  have hown : s.vm.findClass RX5 = some m.cls := hown
  have hl : lv_has ls 3 [(0, .ref q_t)] := hl
  clear RET
  rw [fX5_fitting] at hf
  refine lv_iconst (v := (0 : Int32)) hx hb dX5_fitting_0 (by decide) ?_
  refine lv_istore_n (lv' := [(1, .int (0 : Int32)), (0, .ref q_t)]) hx hb dX5_fitting_1 rfl hl (by decide) rfl (fun ls hl => ?_)
  refine lv_bipush (v := (-5 : Int32)) hx hb dX5_fitting_2 (by decide) ?_
  refine lv_istore_n (lv' := [(2, .int (-5 : Int32)), (1, .int (0 : Int32)), (0, .ref q_t)]) hx hb dX5_fitting_4 rfl hl (by decide) rfl (fun ls hl => ?_)
  obtain ⟨u20, h24, hf⟩ := bd1E hf
  have E21 : ∀ (z38 : Int32), some z38 = some u20 → ∀ ls : Array Slot, lv_has ls 3 [(1, .int z38)] → W p l e (kR 4 126) s m args below meth c s.heap [] 0 0 Q (F0 m 36 ls []) := by
    intro z38 hy; obtain rfl := sm1 hy
    intro ls hl
    refine lv_iload_n hx hb dX5_fitting_36 rfl (lv_at hl 0 rfl) ?_
    exact RT _ hf _ _ _ dX5_fitting_37 (rkI _)
  have L22 : ∀ (k : Nat) (w18 : Int32) (w19 : Int32), fX5_fitting_5 fu t_count t_before t_hours t_after k w18 w19 = some u20 → ∀ ls : Array Slot, lv_has ls 3 [(0, .ref q_t), (1, .int w18), (2, .int w19)] → W p l e (kR 4 126) s m args below meth c s.heap [] 0 0 Q (F0 m 5 ls []) := by
    intro k; induction k with
    | zero => intro w18 w19 hf; exact nosome hf
    | succ k ih =>
      intro w18 w19 hf; rw [fX5_fitting_5] at hf
      intro ls hl
      refine lv_iload_n hx hb dX5_fitting_5 rfl (lv_at hl 2 rfl) ?_
      refine lv_iconst (v := (5 : Int32)) hx hb dX5_fitting_6 (by decide) ?_
      refine lv_icmp_gt (tgt := 36) hx hb dX5_fitting_7 (by decide) (fun c27 => ?_) (fun c27 => ?_)
      · have hf := ifp c27 hf
        exact E21 _ hf ls (lv_sub hl [1] rfl)
      · have hf := ifn c27 hf
        refine lv_iload_n hx hb dX5_fitting_10 rfl (lv_at hl 1 rfl) ?_
        refine lv_aload_n hx hb dX5_fitting_11 rfl (lv_at hl 0 rfl) ?_
        refine lv_iload_n hx hb dX5_fitting_12 rfl (lv_at hl 2 rfl) ?_
        obtain ⟨r28, h29, hf⟩ := bd1E hf
        refine kO_virt hx hb hml hown hts hK hn hP (kX5_fits l D G fu q_t q_t_before q_t_hours q_t_after t_count t_before t_hours t_after w19 h29) cvX5_35 ⟨Nat.le_of_ble_eq_true rfl, Nat.le_of_ble_eq_true rfl⟩ [0, 1, 2, 3] rfl 0 rfl rfl rfl hl.1 rfl (Nat.le_of_ble_eq_true rfl) ⟨Nat.zero_le _, Nat.zero_le _⟩ dX5_fitting_13 ?_
        obtain ⟨j31, h37, hf⟩ := bd1E hf
        have E35 : ∀ (z32 : Int32), some z32 = some j31 → ∀ ls : Array Slot, lv_has ls 3 [(0, .ref q_t), (2, .int w19)] → W p l e (kR 4 126) s m args below meth c s.heap [] 0 0 Q (F0 m 28 ls [.int z32, .int w18]) := by
          intro z32 hy; obtain rfl := sm1 hy
          intro ls hl
          refine lv_ior hx hb dX5_fitting_28 ?_
          refine lv_topi (fun y33 ey33 => ?_)
          have hf := nmeU ey33 hf
          refine lv_istore_n (lv' := [(1, .int y33), (0, .ref q_t), (2, .int w19)]) hx hb dX5_fitting_29 rfl hl (by decide) rfl (fun ls hl => ?_)
          obtain ⟨y34, ey34⟩ : ∃ y : Int32, y = w19 + (1 : Int32) := ⟨_, rfl⟩
          have hf := nmeU ey34 hf
          refine lv_iinc (v := y34) (lv' := [(2, .int y34), (1, .int y33), (0, .ref q_t)]) hx hb dX5_fitting_30 hl (k := 2) rfl (by rw [ey34]; rfl) (by decide) rfl (fun ls hl => ?_)
          refine lv_goto (tgt := 5) hx hb dX5_fitting_33 (by decide) ?_
          exact ih _ _ hf ls (lv_sub hl [2, 1, 0] rfl)
        have hf := h37
        refine lv_if_eq (tgt := 27) hx hb dX5_fitting_16 (by decide) (fun c36 => ?_) (fun c36 => ?_)
        · have hf := ifp c36 hf
          refine lv_iconst (v := (0 : Int32)) hx hb dX5_fitting_27 (by decide) ?_
          exact E35 _ hf ls (lv_sub hl [0, 2] rfl)
        · have hf := ifn c36 hf
          refine lv_iconst (v := (1 : Int32)) hx hb dX5_fitting_19 (by decide) ?_
          refine lv_iload_n hx hb dX5_fitting_20 rfl (lv_at hl 2 rfl) ?_
          refine lv_iconst (v := (5 : Int32)) hx hb dX5_fitting_21 (by decide) ?_
          refine lv_iadd hx hb dX5_fitting_22 ?_
          refine lv_ishl hx hb dX5_fitting_23 ?_
          refine lv_goto (tgt := 28) hx hb dX5_fitting_24 (by decide) ?_
          exact E35 _ hf ls (lv_sub hl [0, 2] rfl)
  exact L22 fu (0 : Int32) (-5 : Int32) h24 ls (lv_sub hl [2, 1, 0] rfl)
set_option maxHeartbeats 4000000 in
set_option maxRecDepth 100000 in
theorem kX5_isFull (l : Launch) (D : va_G) (G : Nat → ClassId) (q_t q_t_before q_t_hours q_t_after : Nat) (t_count : Int32) {r : Int32} (hf : fX5_isFull t_count = some r) : rO l D G yX5_isFull cX5_isFull 1 (some .boolean) 1 60 [.ref q_t] [(q_t, .inr (5, [.int t_count, .ref q_t_before, .ref q_t_hours, .ref q_t_after]))] (some (.int r)) := by
  refine rO_of (by decide) (Nat.le_of_ble_eq_true rfl) ?_
  intro p e s m args below meth c Q hx hb hml hown hts hK hn hP RET ls hl
  have RT : ∀ (a0_ : Int32), some a0_ = some r → ∀ (pc : Nat) (ls : Array Slot) (ins : Instr), decode cX5_isFull pc = .ok (ins, 1) → rk (some .boolean) (some (.int a0_)) ins → W p l e (kR 1 60) s m args below meth c s.heap [] 0 0 Q (F0 m pc ls [.int a0_]) := by
    intro a0_ hy; obtain rfl := sm1 hy
    exact RET
  have hown : s.vm.findClass RX5 = some m.cls := hown
  have hl : lv_has ls 1 [(0, .ref q_t)] := hl
  clear RET
  rw [fX5_isFull] at hf
  refine lv_aload_n hx hb dX5_isFull_0 rfl (lv_at hl 0 rfl) ?_
  refine va_get (D := D) (ci := 5) (v := .int t_count) (C := RX5) (T := TX5) (N := 4) hx hb hts inX5 hown hK hP 0 rfl rfl 0 (by decide) (hts _ lfX5_21) (fun _ h9 => h9) rfl dX5_isFull_1 ?_
  refine lv_bipush (v := (8 : Int32)) hx hb dX5_isFull_4 (by decide) ?_
  refine lv_icmp_lt (tgt := 13) hx hb dX5_isFull_6 (by decide) (fun c1 => ?_) (fun c1 => ?_)
  · have hf := ifp c1 hf
    refine lv_iconst (v := (0 : Int32)) hx hb dX5_isFull_13 (by decide) ?_
    exact RT _ hf _ _ _ dX5_isFull_14 (rkZ (Or.inl rfl))
  · have hf := ifn c1 hf
    refine lv_iconst (v := (1 : Int32)) hx hb dX5_isFull_9 (by decide) ?_
    refine lv_goto (tgt := 14) hx hb dX5_isFull_10 (by decide) ?_
    exact RT _ hf _ _ _ dX5_isFull_14 (rkZ (Or.inr rfl))
set_option maxHeartbeats 4000000 in
set_option maxRecDepth 100000 in
theorem kX5_note (l : Launch) (D : va_G) (G : Nat → ClassId) (q_t q_t_before q_t_hours q_t_after : Nat) (t_count : Int32) (t_before : Nat → Int32) (t_hours : Nat → Int32) (t_after : Nat → Int32) (v1 : Int32) (v2 : Int32) (v3 : Int32) {o_t_count : Int32} {o_t_before : Nat → Int32} {o_t_hours : Nat → Int32} {o_t_after : Nat → Int32} (hf : fX5_note t_count t_before t_hours t_after v1 v2 v3 = some (o_t_count, o_t_before, o_t_hours, o_t_after)) : rW l D G yX5_note cX5_note 4 none 2 80 [.ref q_t, .int v1, .int v2, .int v3] [(q_t, .inr (5, [.int t_count, .ref q_t_before, .ref q_t_hours, .ref q_t_after])), (q_t_before, .inl (G 0, 8, .inl t_before)), (q_t_hours, .inl (G 0, 8, .inl t_hours)), (q_t_after, .inl (G 0, 8, .inl t_after))] [(q_t, .inr (5, [.int o_t_count, .ref q_t_before, .ref q_t_hours, .ref q_t_after])), (q_t_before, .inl (G 0, 8, .inl o_t_before)), (q_t_hours, .inl (G 0, 8, .inl o_t_hours)), (q_t_after, .inl (G 0, 8, .inl o_t_after))] none := by
  refine rW_of (by decide) (Nat.le_of_ble_eq_true rfl) ?_
  intro p e s m args below meth c Q A hx hb hml hown hts hK hn hA RET H locs hP hD hS ls hl
  have RT : ∀ (a0_ : Int32) (a1_ : Nat → Int32) (a2_ : Nat → Int32) (a3_ : Nat → Int32), some (a0_, a1_, a2_, a3_) = some (o_t_count, o_t_before, o_t_hours, o_t_after) → ∀ (pc : Nat) (ls : Array Slot) (ins : Instr) (H : Heap) (locs : List Loc), decode cX5_note pc = .ok (ins, 1) → rk none none ins → va_P D vwCl [(q_t, .inr (5, [.int a0_, .ref q_t_before, .ref q_t_hours, .ref q_t_after])), (q_t_before, .inl (G 0, 8, .inl a1_)), (q_t_hours, .inl (G 0, 8, .inl a2_)), (q_t_after, .inl (G 0, 8, .inl a3_))] H → va_D A [(q_t, .inr (5, [.int a0_, .ref q_t_before, .ref q_t_hours, .ref q_t_after])), (q_t_before, .inl (G 0, 8, .inl a1_)), (q_t_hours, .inl (G 0, 8, .inl a2_)), (q_t_after, .inl (G 0, 8, .inl a3_))] → va_S A s.heap H locs → W p l e (kR 2 80) s m args below meth c H locs 0 0 Q (F0 m pc ls []) := by
    intro a0_ a1_ a2_ a3_ hy; obtain ⟨rfl, rfl, rfl, rfl⟩ := sm4 hy
    exact RET
  have hown : s.vm.findClass RX5 = some m.cls := hown
  have hl : lv_has ls 4 [(0, .ref q_t), (1, .int v1), (2, .int v2), (3, .int v3)] := hl
  clear RET
  rw [fX5_note] at hf
  refine lv_aload_n hx hb dX5_note_0 rfl (lv_at hl 0 rfl) ?_
  obtain ⟨r1, h2, hf⟩ := bd1E hf
  refine kO_virt hx hb hml hown hts hK hn hP (kX5_isFull l D G q_t q_t_before q_t_hours q_t_after t_count h2) cvX5_31 ⟨Nat.le_of_ble_eq_true rfl, Nat.le_of_ble_eq_true rfl⟩ [0] rfl 0 rfl rfl rfl hl.1 rfl (Nat.le_of_ble_eq_true rfl) ⟨Nat.zero_le _, Nat.zero_le _⟩ dX5_note_1 ?_
  refine lv_if_eq (tgt := 8) hx hb dX5_note_4 (by decide) (fun c3 => ?_) (fun c3 => ?_)
  · have hf := ifp c3 hf
    refine lv_aload_n hx hb dX5_note_8 rfl (lv_at hl 0 rfl) ?_
    refine va_get (D := D) (ci := 5) (v := .ref q_t_before) (C := RX5) (T := TX5) (N := 4) hx hb hts inX5 hown hK hP 0 rfl rfl 1 (by decide) (hts _ lfX5_11) (fun _ h9 => h9) rfl dX5_note_9 ?_
    refine lv_aload_n hx hb dX5_note_12 rfl (lv_at hl 0 rfl) ?_
    refine va_get (D := D) (ci := 5) (v := .int t_count) (C := RX5) (T := TX5) (N := 4) hx hb hts inX5 hown hK hP 0 rfl rfl 0 (by decide) (hts _ lfX5_21) (fun _ h9 => h9) rfl dX5_note_13 ?_
    refine lv_iload_n hx hb dX5_note_16 rfl (lv_at hl 1 rfl) ?_
    obtain ⟨g4, eg4, ig4, hf⟩ := stIE hf
    refine k_iast hx hb hK hP hD hS 1 0 rfl rfl ig4 eg4 dX5_note_17 (fun H locs hP hD hS => ?_)
    have hP : va_P D vwCl [(q_t, .inr (5, [.int t_count, .ref q_t_before, .ref q_t_hours, .ref q_t_after])), (q_t_before, .inl (G 0, 8, .inl g4)), (q_t_hours, .inl (G 0, 8, .inl t_hours)), (q_t_after, .inl (G 0, 8, .inl t_after))] H := hP
    have hD : va_D A [(q_t, .inr (5, [.int t_count, .ref q_t_before, .ref q_t_hours, .ref q_t_after])), (q_t_before, .inl (G 0, 8, .inl g4)), (q_t_hours, .inl (G 0, 8, .inl t_hours)), (q_t_after, .inl (G 0, 8, .inl t_after))] := hD
    refine lv_aload_n hx hb dX5_note_18 rfl (lv_at hl 0 rfl) ?_
    refine va_get (D := D) (ci := 5) (v := .ref q_t_hours) (C := RX5) (T := TX5) (N := 4) hx hb hts inX5 hown hK hP 0 rfl rfl 2 (by decide) (hts _ lfX5_15) (fun _ h9 => h9) rfl dX5_note_19 ?_
    refine lv_aload_n hx hb dX5_note_22 rfl (lv_at hl 0 rfl) ?_
    refine va_get (D := D) (ci := 5) (v := .int t_count) (C := RX5) (T := TX5) (N := 4) hx hb hts inX5 hown hK hP 0 rfl rfl 0 (by decide) (hts _ lfX5_21) (fun _ h9 => h9) rfl dX5_note_23 ?_
    refine lv_iload_n hx hb dX5_note_26 rfl (lv_at hl 2 rfl) ?_
    obtain ⟨g5, eg5, ig5, hf⟩ := stIE hf
    refine k_iast hx hb hK hP hD hS 2 0 rfl rfl ig5 eg5 dX5_note_27 (fun H locs hP hD hS => ?_)
    have hP : va_P D vwCl [(q_t, .inr (5, [.int t_count, .ref q_t_before, .ref q_t_hours, .ref q_t_after])), (q_t_before, .inl (G 0, 8, .inl g4)), (q_t_hours, .inl (G 0, 8, .inl g5)), (q_t_after, .inl (G 0, 8, .inl t_after))] H := hP
    have hD : va_D A [(q_t, .inr (5, [.int t_count, .ref q_t_before, .ref q_t_hours, .ref q_t_after])), (q_t_before, .inl (G 0, 8, .inl g4)), (q_t_hours, .inl (G 0, 8, .inl g5)), (q_t_after, .inl (G 0, 8, .inl t_after))] := hD
    refine lv_aload_n hx hb dX5_note_28 rfl (lv_at hl 0 rfl) ?_
    refine va_get (D := D) (ci := 5) (v := .ref q_t_after) (C := RX5) (T := TX5) (N := 4) hx hb hts inX5 hown hK hP 0 rfl rfl 3 (by decide) (hts _ lfX5_18) (fun _ h9 => h9) rfl dX5_note_29 ?_
    refine lv_aload_n hx hb dX5_note_32 rfl (lv_at hl 0 rfl) ?_
    refine va_get (D := D) (ci := 5) (v := .int t_count) (C := RX5) (T := TX5) (N := 4) hx hb hts inX5 hown hK hP 0 rfl rfl 0 (by decide) (hts _ lfX5_21) (fun _ h9 => h9) rfl dX5_note_33 ?_
    refine lv_iload_n hx hb dX5_note_36 rfl (lv_at hl 3 rfl) ?_
    obtain ⟨g6, eg6, ig6, hf⟩ := stIE hf
    refine k_iast hx hb hK hP hD hS 3 0 rfl rfl ig6 eg6 dX5_note_37 (fun H locs hP hD hS => ?_)
    have hP : va_P D vwCl [(q_t, .inr (5, [.int t_count, .ref q_t_before, .ref q_t_hours, .ref q_t_after])), (q_t_before, .inl (G 0, 8, .inl g4)), (q_t_hours, .inl (G 0, 8, .inl g5)), (q_t_after, .inl (G 0, 8, .inl g6))] H := hP
    have hD : va_D A [(q_t, .inr (5, [.int t_count, .ref q_t_before, .ref q_t_hours, .ref q_t_after])), (q_t_before, .inl (G 0, 8, .inl g4)), (q_t_hours, .inl (G 0, 8, .inl g5)), (q_t_after, .inl (G 0, 8, .inl g6))] := hD
    refine lv_aload_n hx hb dX5_note_38 rfl (lv_at hl 0 rfl) ?_
    refine lv_dup hx hb dX5_note_39 rfl ?_
    refine va_get (D := D) (ci := 5) (v := .int t_count) (C := RX5) (T := TX5) (N := 4) hx hb hts inX5 hown hK hP 0 rfl rfl 0 (by decide) (hts _ lfX5_21) (fun _ h9 => h9) rfl dX5_note_40 ?_
    refine lv_iconst (v := (1 : Int32)) hx hb dX5_note_43 (by decide) ?_
    refine lv_iadd hx hb dX5_note_44 ?_
    refine lv_topi (fun y7 ey7 => ?_)
    have hf := nmeU ey7 hf
    refine va_put (D := D) (ci := 5) (v := .int y7) (ty := .int) (C := RX5) (T := TX5) (N := 4) hx hb hts inX5 tyX5 tyX5_ok nmX5 hown hK hP hD hS 0 rfl rfl 0 (by decide) (hts _ lfX5_21) (fun _ h9 => h9) rfl (tyX5_ok 0 (by decide)) rfl rfl (Nat.le_of_ble_eq_true rfl) dX5_note_45 (fun H locs hP hD hS => ?_)
    have hP : va_P D vwCl [(q_t, .inr (5, [.int y7, .ref q_t_before, .ref q_t_hours, .ref q_t_after])), (q_t_before, .inl (G 0, 8, .inl g4)), (q_t_hours, .inl (G 0, 8, .inl g5)), (q_t_after, .inl (G 0, 8, .inl g6))] H := hP
    have hD : va_D A [(q_t, .inr (5, [.int y7, .ref q_t_before, .ref q_t_hours, .ref q_t_after])), (q_t_before, .inl (G 0, 8, .inl g4)), (q_t_hours, .inl (G 0, 8, .inl g5)), (q_t_after, .inl (G 0, 8, .inl g6))] := hD
    exact RT _ _ _ _ hf _ _ _ H locs dX5_note_48 rkV hP hD hS
  · have hf := ifn c3 hf
    exact RT _ _ _ _ hf _ _ _ H locs dX5_note_7 rkV hP hD hS
set_option maxHeartbeats 4000000 in
set_option maxRecDepth 100000 in
theorem kX6_noteHour (l : Launch) (D : va_G) (G : Nat → ClassId) (q_t q_t_house : Nat) (t_acts : Int32) (t_why : Int32) (t_hours : Int32) (t_worseHour : Int32) (t_worsePiece : Int32) (v1 : Int32) {o_t_hours : Int32} {o_t_worseHour : Int32} {o_t_worsePiece : Int32} (hf : fX6_noteHour t_hours t_worseHour t_worsePiece v1 = some (o_t_hours, o_t_worseHour, o_t_worsePiece)) : rW l D G yX6_noteHour cX6_noteHour 2 none 1 60 [.ref q_t, .int v1] [(q_t, .inr (6, [.ref q_t_house, .int t_acts, .int t_why, .int t_hours, .int t_worseHour, .int t_worsePiece]))] [(q_t, .inr (6, [.ref q_t_house, .int t_acts, .int t_why, .int o_t_hours, .int o_t_worseHour, .int o_t_worsePiece]))] none := by
  refine rW_of (by decide) (Nat.le_of_ble_eq_true rfl) ?_
  intro p e s m args below meth c Q A hx hb hml hown hts hK hn hA RET H locs hP hD hS ls hl
  have RT : ∀ (a0_ : Int32) (a1_ : Int32) (a2_ : Int32), some (a0_, a1_, a2_) = some (o_t_hours, o_t_worseHour, o_t_worsePiece) → ∀ (pc : Nat) (ls : Array Slot) (ins : Instr) (H : Heap) (locs : List Loc), decode cX6_noteHour pc = .ok (ins, 1) → rk none none ins → va_P D vwCl [(q_t, .inr (6, [.ref q_t_house, .int t_acts, .int t_why, .int a0_, .int a1_, .int a2_]))] H → va_D A [(q_t, .inr (6, [.ref q_t_house, .int t_acts, .int t_why, .int a0_, .int a1_, .int a2_]))] → va_S A s.heap H locs → W p l e (kR 1 60) s m args below meth c H locs 0 0 Q (F0 m pc ls []) := by
    intro a0_ a1_ a2_ hy; obtain ⟨rfl, rfl, rfl⟩ := sm3 hy
    exact RET
  have hown : s.vm.findClass RX6 = some m.cls := hown
  have hl : lv_has ls 2 [(0, .ref q_t), (1, .int v1)] := hl
  clear RET
  rw [fX6_noteHour] at hf
  refine lv_aload_n hx hb dX6_noteHour_0 rfl (lv_at hl 0 rfl) ?_
  refine va_get (D := D) (ci := 6) (v := .int t_worseHour) (C := RX6) (T := TX6) (N := 6) hx hb hts inX6 hown hK hP 0 rfl rfl 4 (by decide) (hts _ lfX6_59) (fun _ h9 => h9) rfl dX6_noteHour_1 ?_
  refine lv_bipush (v := (-6 : Int32)) hx hb dX6_noteHour_4 (by decide) ?_
  obtain ⟨j10, j11, h25, hf⟩ := bd2E hf
  have E15 : ∀ (z12 : Int32) (z13 : Int32), some (z12, z13) = some (j10, j11) → ∀ (H : Heap) (locs : List Loc), va_P D vwCl [(q_t, .inr (6, [.ref q_t_house, .int t_acts, .int t_why, .int t_hours, .int z12, .int z13]))] H → va_D A [(q_t, .inr (6, [.ref q_t_house, .int t_acts, .int t_why, .int t_hours, .int z12, .int z13]))] → va_S A s.heap H locs → ∀ ls : Array Slot, lv_has ls 2 [(0, .ref q_t)] → W p l e (kR 1 60) s m args below meth c H locs 0 0 Q (F0 m 28 ls []) := by
    intro z12 z13 hy; obtain ⟨rfl, rfl⟩ := sm2 hy
    intro H locs hP hD hS ls hl
    refine lv_aload_n hx hb dX6_noteHour_28 rfl (lv_at hl 0 rfl) ?_
    refine lv_dup hx hb dX6_noteHour_29 rfl ?_
    refine va_get (D := D) (ci := 6) (v := .int t_hours) (C := RX6) (T := TX6) (N := 6) hx hb hts inX6 hown hK hP 0 rfl rfl 3 (by decide) (hts _ lfX6_56) (fun _ h9 => h9) rfl dX6_noteHour_30 ?_
    refine lv_iconst (v := (1 : Int32)) hx hb dX6_noteHour_33 (by decide) ?_
    refine lv_iadd hx hb dX6_noteHour_34 ?_
    refine lv_topi (fun y14 ey14 => ?_)
    have hf := nmeU ey14 hf
    refine va_put (D := D) (ci := 6) (v := .int y14) (ty := .int) (C := RX6) (T := TX6) (N := 6) hx hb hts inX6 tyX6 tyX6_ok nmX6 hown hK hP hD hS 0 rfl rfl 3 (by decide) (hts _ lfX6_56) (fun _ h9 => h9) rfl (tyX6_ok 3 (by decide)) rfl rfl (Nat.le_of_ble_eq_true rfl) dX6_noteHour_35 (fun H locs hP hD hS => ?_)
    have hP : va_P D vwCl [(q_t, .inr (6, [.ref q_t_house, .int t_acts, .int t_why, .int y14, .int z12, .int z13]))] H := hP
    have hD : va_D A [(q_t, .inr (6, [.ref q_t_house, .int t_acts, .int t_why, .int y14, .int z12, .int z13]))] := hD
    exact RT _ _ _ hf _ _ _ H locs dX6_noteHour_38 rkV hP hD hS
  have hf := h25
  refine lv_icmp_ne (tgt := 28) hx hb dX6_noteHour_6 (by decide) (fun c16 => ?_) (fun c16 => ?_)
  · have hf := ifn c16 hf
    exact E15 _ _ hf H locs hP hD hS ls (lv_sub hl [0] rfl)
  · have hf := ifp c16 hf
    refine lv_iload_n hx hb dX6_noteHour_9 rfl (lv_at hl 1 rfl) ?_
    refine lv_bipush (v := (-6 : Int32)) hx hb dX6_noteHour_10 (by decide) ?_
    obtain ⟨j18, j19, h24, hf⟩ := bd2E hf
    have E22 : ∀ (z20 : Int32) (z21 : Int32), some (z20, z21) = some (j18, j19) → ∀ (H : Heap) (locs : List Loc), va_P D vwCl [(q_t, .inr (6, [.ref q_t_house, .int t_acts, .int t_why, .int t_hours, .int z20, .int z21]))] H → va_D A [(q_t, .inr (6, [.ref q_t_house, .int t_acts, .int t_why, .int t_hours, .int z20, .int z21]))] → va_S A s.heap H locs → ∀ ls : Array Slot, lv_has ls 2 [(0, .ref q_t)] → W p l e (kR 1 60) s m args below meth c H locs 0 0 Q (F0 m 28 ls []) := by
      intro z20 z21 hy; obtain ⟨rfl, rfl⟩ := sm2 hy
      intro H locs hP hD hS ls hl
      exact E15 _ _ hf H locs hP hD hS ls (lv_sub hl [0] rfl)
    have hf := h24
    refine lv_icmp_eq (tgt := 28) hx hb dX6_noteHour_12 (by decide) (fun c23 => ?_) (fun c23 => ?_)
    · have hf := ifp c23 hf
      exact E22 _ _ hf H locs hP hD hS ls (lv_sub hl [0] rfl)
    · have hf := ifn c23 hf
      refine lv_aload_n hx hb dX6_noteHour_15 rfl (lv_at hl 0 rfl) ?_
      refine lv_aload_n hx hb dX6_noteHour_16 rfl (lv_at hl 0 rfl) ?_
      refine va_get (D := D) (ci := 6) (v := .int t_hours) (C := RX6) (T := TX6) (N := 6) hx hb hts inX6 hown hK hP 0 rfl rfl 3 (by decide) (hts _ lfX6_56) (fun _ h9 => h9) rfl dX6_noteHour_17 ?_
      refine va_put (D := D) (ci := 6) (v := .int t_hours) (ty := .int) (C := RX6) (T := TX6) (N := 6) hx hb hts inX6 tyX6 tyX6_ok nmX6 hown hK hP hD hS 0 rfl rfl 4 (by decide) (hts _ lfX6_59) (fun _ h9 => h9) rfl (tyX6_ok 4 (by decide)) rfl rfl (Nat.le_of_ble_eq_true rfl) dX6_noteHour_20 (fun H locs hP hD hS => ?_)
      have hP : va_P D vwCl [(q_t, .inr (6, [.ref q_t_house, .int t_acts, .int t_why, .int t_hours, .int t_hours, .int t_worsePiece]))] H := hP
      have hD : va_D A [(q_t, .inr (6, [.ref q_t_house, .int t_acts, .int t_why, .int t_hours, .int t_hours, .int t_worsePiece]))] := hD
      refine lv_aload_n hx hb dX6_noteHour_23 rfl (lv_at hl 0 rfl) ?_
      refine lv_iload_n hx hb dX6_noteHour_24 rfl (lv_at hl 1 rfl) ?_
      refine va_put (D := D) (ci := 6) (v := .int v1) (ty := .int) (C := RX6) (T := TX6) (N := 6) hx hb hts inX6 tyX6 tyX6_ok nmX6 hown hK hP hD hS 0 rfl rfl 5 (by decide) (hts _ lfX6_62) (fun _ h9 => h9) rfl (tyX6_ok 5 (by decide)) rfl rfl (Nat.le_of_ble_eq_true rfl) dX6_noteHour_25 (fun H locs hP hD hS => ?_)
      have hP : va_P D vwCl [(q_t, .inr (6, [.ref q_t_house, .int t_acts, .int t_why, .int t_hours, .int t_hours, .int v1]))] H := hP
      have hD : va_D A [(q_t, .inr (6, [.ref q_t_house, .int t_acts, .int t_why, .int t_hours, .int t_hours, .int v1]))] := hD
      exact E22 _ _ hf H locs hP hD hS ls (lv_sub hl [0] rfl)
set_option maxHeartbeats 4000000 in
set_option maxRecDepth 100000 in
theorem kX6_attempt (l : Launch) (D : va_G) (G : Nat → ClassId) (fu : Nat) (q_t q_t_house q_t_house_ills q_t_house_roomOf q_t_house_effects q_t_house_badFor q_t_house_likes q_t_house_sights : Nat) (t_acts : Int32) (t_why : Int32) (t_hours : Int32) (t_worseHour : Int32) (t_worsePiece : Int32) (t_house_there : Int32) (t_house_sat : Int32) (t_house_hour : Int32) (t_house_ills : Nat → Int32) (t_house_roomOf : Nat → Int32) (t_house_effects : Nat → Int32) (t_house_badFor : Nat → Int32) (v1 : Int32) (v2 : Int32) {o_t_acts : Int32} {o_t_why : Int32} {o_t_hours : Int32} {o_t_worseHour : Int32} {o_t_worsePiece : Int32} {o_t_house_sat : Int32} {o_t_house_hour : Int32} {o_t_house_ills : Nat → Int32} {o_t_house_roomOf : Nat → Int32} (hf : fX6_attempt fu t_acts t_why t_hours t_worseHour t_worsePiece t_house_there t_house_sat t_house_hour t_house_ills t_house_roomOf t_house_effects t_house_badFor v1 v2 = some (o_t_acts, o_t_why, o_t_hours, o_t_worseHour, o_t_worsePiece, o_t_house_sat, o_t_house_hour, o_t_house_ills, o_t_house_roomOf)) : rW l D G yX6_attempt cX6_attempt 3 none 4 133 [.ref q_t, .int v1, .int v2] [(q_t, .inr (6, [.ref q_t_house, .int t_acts, .int t_why, .int t_hours, .int t_worseHour, .int t_worsePiece])), (q_t_house, .inr (1, [.int t_house_there, .int t_house_sat, .int t_house_hour, .ref q_t_house_ills, .ref q_t_house_roomOf, .ref q_t_house_effects, .ref q_t_house_badFor, .ref q_t_house_likes, .ref q_t_house_sights])), (q_t_house_ills, .inl (G 0, 18, .inl t_house_ills)), (q_t_house_roomOf, .inl (G 0, 6, .inl t_house_roomOf)), (q_t_house_effects, .inl (G 0, 12, .inl t_house_effects)), (q_t_house_badFor, .inl (G 0, 36, .inl t_house_badFor))] [(q_t, .inr (6, [.ref q_t_house, .int o_t_acts, .int o_t_why, .int o_t_hours, .int o_t_worseHour, .int o_t_worsePiece])), (q_t_house, .inr (1, [.int t_house_there, .int o_t_house_sat, .int o_t_house_hour, .ref q_t_house_ills, .ref q_t_house_roomOf, .ref q_t_house_effects, .ref q_t_house_badFor, .ref q_t_house_likes, .ref q_t_house_sights])), (q_t_house_ills, .inl (G 0, 18, .inl o_t_house_ills)), (q_t_house_roomOf, .inl (G 0, 6, .inl o_t_house_roomOf)), (q_t_house_effects, .inl (G 0, 12, .inl t_house_effects)), (q_t_house_badFor, .inl (G 0, 36, .inl t_house_badFor))] none := by
  refine rW_of (by decide) (Nat.le_of_ble_eq_true rfl) ?_
  intro p e s m args below meth c Q A hx hb hml hown hts hK hn hA RET H locs hP hD hS ls hl
  have RT : ∀ (a0_ : Int32) (a1_ : Int32) (a2_ : Int32) (a3_ : Int32) (a4_ : Int32) (a5_ : Int32) (a6_ : Int32) (a7_ : Nat → Int32) (a8_ : Nat → Int32), some (a0_, a1_, a2_, a3_, a4_, a5_, a6_, a7_, a8_) = some (o_t_acts, o_t_why, o_t_hours, o_t_worseHour, o_t_worsePiece, o_t_house_sat, o_t_house_hour, o_t_house_ills, o_t_house_roomOf) → ∀ (pc : Nat) (ls : Array Slot) (ins : Instr) (H : Heap) (locs : List Loc), decode cX6_attempt pc = .ok (ins, 1) → rk none none ins → va_P D vwCl [(q_t, .inr (6, [.ref q_t_house, .int a0_, .int a1_, .int a2_, .int a3_, .int a4_])), (q_t_house, .inr (1, [.int t_house_there, .int a5_, .int a6_, .ref q_t_house_ills, .ref q_t_house_roomOf, .ref q_t_house_effects, .ref q_t_house_badFor, .ref q_t_house_likes, .ref q_t_house_sights])), (q_t_house_ills, .inl (G 0, 18, .inl a7_)), (q_t_house_roomOf, .inl (G 0, 6, .inl a8_)), (q_t_house_effects, .inl (G 0, 12, .inl t_house_effects)), (q_t_house_badFor, .inl (G 0, 36, .inl t_house_badFor))] H → va_D A [(q_t, .inr (6, [.ref q_t_house, .int a0_, .int a1_, .int a2_, .int a3_, .int a4_])), (q_t_house, .inr (1, [.int t_house_there, .int a5_, .int a6_, .ref q_t_house_ills, .ref q_t_house_roomOf, .ref q_t_house_effects, .ref q_t_house_badFor, .ref q_t_house_likes, .ref q_t_house_sights])), (q_t_house_ills, .inl (G 0, 18, .inl a7_)), (q_t_house_roomOf, .inl (G 0, 6, .inl a8_)), (q_t_house_effects, .inl (G 0, 12, .inl t_house_effects)), (q_t_house_badFor, .inl (G 0, 36, .inl t_house_badFor))] → va_S A s.heap H locs → W p l e (kR 4 133) s m args below meth c H locs 0 0 Q (F0 m pc ls []) := by
    intro a0_ a1_ a2_ a3_ a4_ a5_ a6_ a7_ a8_ hy; obtain ⟨rfl, rfl, rfl, rfl, rfl, rfl, rfl, rfl, rfl⟩ := sm9 hy
    exact RET
  have hown : s.vm.findClass RX6 = some m.cls := hown
  have hl : lv_has ls 3 [(0, .ref q_t), (1, .int v1), (2, .int v2)] := hl
  clear RET
  rw [fX6_attempt] at hf
  refine lv_aload_n hx hb dX6_attempt_0 rfl (lv_at hl 0 rfl) ?_
  refine lv_aload_n hx hb dX6_attempt_1 rfl (lv_at hl 0 rfl) ?_
  refine va_get (D := D) (ci := 6) (v := .ref q_t_house) (C := RX6) (T := TX6) (N := 6) hx hb hts inX6 hown hK hP 0 rfl rfl 0 (by decide) (hts _ lfX6_12) (fun _ h9 => h9) rfl dX6_attempt_2 ?_
  refine lv_iload_n hx hb dX6_attempt_5 rfl (lv_at hl 1 rfl) ?_
  refine lv_iload_n hx hb dX6_attempt_6 rfl (lv_at hl 2 rfl) ?_
  obtain ⟨r1, h2, hf⟩ := bd1E hf
  refine kO_virt hx hb hml hown hts hK hn hP (kX1_reasonAgainst l D G q_t_house q_t_house_ills q_t_house_roomOf q_t_house_effects q_t_house_badFor q_t_house_likes q_t_house_sights t_house_there t_house_sat t_house_hour t_house_roomOf v1 v2 h2) cvX6_65 ⟨Nat.le_of_ble_eq_true rfl, Nat.le_of_ble_eq_true rfl⟩ [1, 3] rfl 1 rfl rfl rfl hl.1 rfl (Nat.le_of_ble_eq_true rfl) ⟨Nat.zero_le _, Nat.zero_le _⟩ dX6_attempt_7 ?_
  refine va_put (D := D) (ci := 6) (v := .int r1) (ty := .int) (C := RX6) (T := TX6) (N := 6) hx hb hts inX6 tyX6 tyX6_ok nmX6 hown hK hP hD hS 0 rfl rfl 2 (by decide) (hts _ lfX6_28) (fun _ h9 => h9) rfl (tyX6_ok 2 (by decide)) rfl rfl (Nat.le_of_ble_eq_true rfl) dX6_attempt_10 (fun H locs hP hD hS => ?_)
  have hP : va_P D vwCl [(q_t, .inr (6, [.ref q_t_house, .int t_acts, .int r1, .int t_hours, .int t_worseHour, .int t_worsePiece])), (q_t_house, .inr (1, [.int t_house_there, .int t_house_sat, .int t_house_hour, .ref q_t_house_ills, .ref q_t_house_roomOf, .ref q_t_house_effects, .ref q_t_house_badFor, .ref q_t_house_likes, .ref q_t_house_sights])), (q_t_house_ills, .inl (G 0, 18, .inl t_house_ills)), (q_t_house_roomOf, .inl (G 0, 6, .inl t_house_roomOf)), (q_t_house_effects, .inl (G 0, 12, .inl t_house_effects)), (q_t_house_badFor, .inl (G 0, 36, .inl t_house_badFor))] H := hP
  have hD : va_D A [(q_t, .inr (6, [.ref q_t_house, .int t_acts, .int r1, .int t_hours, .int t_worseHour, .int t_worsePiece])), (q_t_house, .inr (1, [.int t_house_there, .int t_house_sat, .int t_house_hour, .ref q_t_house_ills, .ref q_t_house_roomOf, .ref q_t_house_effects, .ref q_t_house_badFor, .ref q_t_house_likes, .ref q_t_house_sights])), (q_t_house_ills, .inl (G 0, 18, .inl t_house_ills)), (q_t_house_roomOf, .inl (G 0, 6, .inl t_house_roomOf)), (q_t_house_effects, .inl (G 0, 12, .inl t_house_effects)), (q_t_house_badFor, .inl (G 0, 36, .inl t_house_badFor))] := hD
  refine lv_aload_n hx hb dX6_attempt_13 rfl (lv_at hl 0 rfl) ?_
  refine va_get (D := D) (ci := 6) (v := .int r1) (C := RX6) (T := TX6) (N := 6) hx hb hts inX6 hown hK hP 0 rfl rfl 2 (by decide) (hts _ lfX6_28) (fun _ h9 => h9) rfl dX6_attempt_14 ?_
  refine lv_if_eq (tgt := 21) hx hb dX6_attempt_17 (by decide) (fun c3 => ?_) (fun c3 => ?_)
  · have hf := ifp c3 hf
    refine lv_iload_n hx hb dX6_attempt_21 rfl (lv_at hl 2 rfl) ?_
    refine lv_iconst (v := (5 : Int32)) hx hb dX6_attempt_22 (by decide) ?_
    obtain ⟨j17, j18, j19, j20, j21, j22, j23, h46, hf⟩ := bd7E hf
    have E32 : ∀ (z24 : Int32) (z25 : Int32) (z26 : Int32) (z27 : Int32) (z28 : Int32) (z29 : Nat → Int32) (z30 : Nat → Int32), some (z24, z25, z26, z27, z28, z29, z30) = some (j17, j18, j19, j20, j21, j22, j23) → ∀ (H : Heap) (locs : List Loc), va_P D vwCl [(q_t, .inr (6, [.ref q_t_house, .int t_acts, .int r1, .int z24, .int z25, .int z26])), (q_t_house, .inr (1, [.int t_house_there, .int z27, .int z28, .ref q_t_house_ills, .ref q_t_house_roomOf, .ref q_t_house_effects, .ref q_t_house_badFor, .ref q_t_house_likes, .ref q_t_house_sights])), (q_t_house_ills, .inl (G 0, 18, .inl z29)), (q_t_house_roomOf, .inl (G 0, 6, .inl z30)), (q_t_house_effects, .inl (G 0, 12, .inl t_house_effects)), (q_t_house_badFor, .inl (G 0, 36, .inl t_house_badFor))] H → va_D A [(q_t, .inr (6, [.ref q_t_house, .int t_acts, .int r1, .int z24, .int z25, .int z26])), (q_t_house, .inr (1, [.int t_house_there, .int z27, .int z28, .ref q_t_house_ills, .ref q_t_house_roomOf, .ref q_t_house_effects, .ref q_t_house_badFor, .ref q_t_house_likes, .ref q_t_house_sights])), (q_t_house_ills, .inl (G 0, 18, .inl z29)), (q_t_house_roomOf, .inl (G 0, 6, .inl z30)), (q_t_house_effects, .inl (G 0, 12, .inl t_house_effects)), (q_t_house_badFor, .inl (G 0, 36, .inl t_house_badFor))] → va_S A s.heap H locs → ∀ ls : Array Slot, lv_has ls 3 [(0, .ref q_t)] → W p l e (kR 4 133) s m args below meth c H locs 0 0 Q (F0 m 49 ls []) := by
      intro z24 z25 z26 z27 z28 z29 z30 hy; obtain ⟨rfl, rfl, rfl, rfl, rfl, rfl, rfl⟩ := sm7 hy
      intro H locs hP hD hS ls hl
      refine lv_aload_n hx hb dX6_attempt_49 rfl (lv_at hl 0 rfl) ?_
      refine lv_dup hx hb dX6_attempt_50 rfl ?_
      refine va_get (D := D) (ci := 6) (v := .int t_acts) (C := RX6) (T := TX6) (N := 6) hx hb hts inX6 hown hK hP 0 rfl rfl 1 (by decide) (hts _ lfX6_53) (fun _ h9 => h9) rfl dX6_attempt_51 ?_
      refine lv_iconst (v := (1 : Int32)) hx hb dX6_attempt_54 (by decide) ?_
      refine lv_iadd hx hb dX6_attempt_55 ?_
      refine lv_topi (fun y31 ey31 => ?_)
      have hf := nmeU ey31 hf
      refine va_put (D := D) (ci := 6) (v := .int y31) (ty := .int) (C := RX6) (T := TX6) (N := 6) hx hb hts inX6 tyX6 tyX6_ok nmX6 hown hK hP hD hS 0 rfl rfl 1 (by decide) (hts _ lfX6_53) (fun _ h9 => h9) rfl (tyX6_ok 1 (by decide)) rfl rfl (Nat.le_of_ble_eq_true rfl) dX6_attempt_56 (fun H locs hP hD hS => ?_)
      have hP : va_P D vwCl [(q_t, .inr (6, [.ref q_t_house, .int y31, .int r1, .int z24, .int z25, .int z26])), (q_t_house, .inr (1, [.int t_house_there, .int z27, .int z28, .ref q_t_house_ills, .ref q_t_house_roomOf, .ref q_t_house_effects, .ref q_t_house_badFor, .ref q_t_house_likes, .ref q_t_house_sights])), (q_t_house_ills, .inl (G 0, 18, .inl z29)), (q_t_house_roomOf, .inl (G 0, 6, .inl z30)), (q_t_house_effects, .inl (G 0, 12, .inl t_house_effects)), (q_t_house_badFor, .inl (G 0, 36, .inl t_house_badFor))] H := hP
      have hD : va_D A [(q_t, .inr (6, [.ref q_t_house, .int y31, .int r1, .int z24, .int z25, .int z26])), (q_t_house, .inr (1, [.int t_house_there, .int z27, .int z28, .ref q_t_house_ills, .ref q_t_house_roomOf, .ref q_t_house_effects, .ref q_t_house_badFor, .ref q_t_house_likes, .ref q_t_house_sights])), (q_t_house_ills, .inl (G 0, 18, .inl z29)), (q_t_house_roomOf, .inl (G 0, 6, .inl z30)), (q_t_house_effects, .inl (G 0, 12, .inl t_house_effects)), (q_t_house_badFor, .inl (G 0, 36, .inl t_house_badFor))] := hD
      exact RT _ _ _ _ _ _ _ _ _ hf _ _ _ H locs dX6_attempt_59 rkV hP hD hS
    have hf := h46
    refine lv_icmp_ne (tgt := 40) hx hb dX6_attempt_23 (by decide) (fun c33 => ?_) (fun c33 => ?_)
    · have hf := ifn c33 hf
      refine lv_aload_n hx hb dX6_attempt_40 rfl (lv_at hl 0 rfl) ?_
      refine va_get (D := D) (ci := 6) (v := .ref q_t_house) (C := RX6) (T := TX6) (N := 6) hx hb hts inX6 hown hK hP 0 rfl rfl 0 (by decide) (hts _ lfX6_12) (fun _ h9 => h9) rfl dX6_attempt_41 ?_
      refine lv_iload_n hx hb dX6_attempt_44 rfl (lv_at hl 1 rfl) ?_
      refine lv_iload_n hx hb dX6_attempt_45 rfl (lv_at hl 2 rfl) ?_
      obtain ⟨o34, o35, h36, hf⟩ := bd2E hf
      refine kW_virt0 hx hb hml hown hts hK hn hA hP hD hS (kX1_perform l D G q_t_house q_t_house_ills q_t_house_roomOf q_t_house_effects q_t_house_badFor q_t_house_likes q_t_house_sights t_house_there t_house_sat t_house_hour t_house_roomOf v1 v2 h36) cvX6_77 ⟨Nat.le_of_ble_eq_true rfl, Nat.le_of_ble_eq_true rfl⟩ [1, 3] rfl rfl [false, true, false, true] rfl (w3 := [(q_t_house, .inr (1, [.int t_house_there, .int o34, .int t_house_hour, .ref q_t_house_ills, .ref q_t_house_roomOf, .ref q_t_house_effects, .ref q_t_house_badFor, .ref q_t_house_likes, .ref q_t_house_sights])), (q_t_house_roomOf, .inl (G 0, 6, .inl o35))]) [0, 1] rfl rfl 1 rfl rfl rfl hl.1 rfl (Nat.le_of_ble_eq_true rfl) ⟨Nat.zero_le _, Nat.zero_le _⟩ dX6_attempt_46 (fun H locs hP hD hS => ?_)
      have hP : va_P D vwCl [(q_t, .inr (6, [.ref q_t_house, .int t_acts, .int r1, .int t_hours, .int t_worseHour, .int t_worsePiece])), (q_t_house, .inr (1, [.int t_house_there, .int o34, .int t_house_hour, .ref q_t_house_ills, .ref q_t_house_roomOf, .ref q_t_house_effects, .ref q_t_house_badFor, .ref q_t_house_likes, .ref q_t_house_sights])), (q_t_house_ills, .inl (G 0, 18, .inl t_house_ills)), (q_t_house_roomOf, .inl (G 0, 6, .inl o35)), (q_t_house_effects, .inl (G 0, 12, .inl t_house_effects)), (q_t_house_badFor, .inl (G 0, 36, .inl t_house_badFor))] H := hP
      have hD : va_D A [(q_t, .inr (6, [.ref q_t_house, .int t_acts, .int r1, .int t_hours, .int t_worseHour, .int t_worsePiece])), (q_t_house, .inr (1, [.int t_house_there, .int o34, .int t_house_hour, .ref q_t_house_ills, .ref q_t_house_roomOf, .ref q_t_house_effects, .ref q_t_house_badFor, .ref q_t_house_likes, .ref q_t_house_sights])), (q_t_house_ills, .inl (G 0, 18, .inl t_house_ills)), (q_t_house_roomOf, .inl (G 0, 6, .inl o35)), (q_t_house_effects, .inl (G 0, 12, .inl t_house_effects)), (q_t_house_badFor, .inl (G 0, 36, .inl t_house_badFor))] := hD
      exact E32 _ _ _ _ _ _ _ hf H locs hP hD hS ls (lv_sub hl [0] rfl)
    · have hf := ifp c33 hf
      refine lv_aload_n hx hb dX6_attempt_26 rfl (lv_at hl 0 rfl) ?_
      refine lv_aload_n hx hb dX6_attempt_27 rfl (lv_at hl 0 rfl) ?_
      refine va_get (D := D) (ci := 6) (v := .ref q_t_house) (C := RX6) (T := TX6) (N := 6) hx hb hts inX6 hown hK hP 0 rfl rfl 0 (by decide) (hts _ lfX6_12) (fun _ h9 => h9) rfl dX6_attempt_28 ?_
      obtain ⟨r37, o38, o39, o40, h41, hf⟩ := bd4E hf
      refine kW_virt hx hb hml hown hts hK hn hA hP hD hS (kX1_passHour l D G fu q_t_house q_t_house_ills q_t_house_roomOf q_t_house_effects q_t_house_badFor q_t_house_likes q_t_house_sights t_house_there t_house_sat t_house_hour t_house_ills t_house_roomOf t_house_effects t_house_badFor h41) cvX6_69 ⟨Nat.le_of_ble_eq_true rfl, Nat.le_of_ble_eq_true rfl⟩ [1, 2, 3, 4, 5] rfl rfl [false, true, true, true, true, true] rfl (w3 := [(q_t_house, .inr (1, [.int t_house_there, .int o38, .int o39, .ref q_t_house_ills, .ref q_t_house_roomOf, .ref q_t_house_effects, .ref q_t_house_badFor, .ref q_t_house_likes, .ref q_t_house_sights])), (q_t_house_ills, .inl (G 0, 18, .inl o40)), (q_t_house_roomOf, .inl (G 0, 6, .inl t_house_roomOf)), (q_t_house_effects, .inl (G 0, 12, .inl t_house_effects)), (q_t_house_badFor, .inl (G 0, 36, .inl t_house_badFor))]) [0, 1, 2, 3, 4] rfl rfl 1 rfl rfl rfl hl.1 rfl (Nat.le_of_ble_eq_true rfl) ⟨Nat.zero_le _, Nat.zero_le _⟩ dX6_attempt_31 (fun H locs hP hD hS => ?_)
      have hP : va_P D vwCl [(q_t, .inr (6, [.ref q_t_house, .int t_acts, .int r1, .int t_hours, .int t_worseHour, .int t_worsePiece])), (q_t_house, .inr (1, [.int t_house_there, .int o38, .int o39, .ref q_t_house_ills, .ref q_t_house_roomOf, .ref q_t_house_effects, .ref q_t_house_badFor, .ref q_t_house_likes, .ref q_t_house_sights])), (q_t_house_ills, .inl (G 0, 18, .inl o40)), (q_t_house_roomOf, .inl (G 0, 6, .inl t_house_roomOf)), (q_t_house_effects, .inl (G 0, 12, .inl t_house_effects)), (q_t_house_badFor, .inl (G 0, 36, .inl t_house_badFor))] H := hP
      have hD : va_D A [(q_t, .inr (6, [.ref q_t_house, .int t_acts, .int r1, .int t_hours, .int t_worseHour, .int t_worsePiece])), (q_t_house, .inr (1, [.int t_house_there, .int o38, .int o39, .ref q_t_house_ills, .ref q_t_house_roomOf, .ref q_t_house_effects, .ref q_t_house_badFor, .ref q_t_house_likes, .ref q_t_house_sights])), (q_t_house_ills, .inl (G 0, 18, .inl o40)), (q_t_house_roomOf, .inl (G 0, 6, .inl t_house_roomOf)), (q_t_house_effects, .inl (G 0, 12, .inl t_house_effects)), (q_t_house_badFor, .inl (G 0, 36, .inl t_house_badFor))] := hD
      obtain ⟨o42, o43, o44, h45, hf⟩ := bd3E hf
      refine kW_virt0 hx hb hml hown hts hK hn hA hP hD hS (kX6_noteHour l D G q_t q_t_house t_acts r1 t_hours t_worseHour t_worsePiece r37 h45) cvX6_73 ⟨Nat.le_of_ble_eq_true rfl, Nat.le_of_ble_eq_true rfl⟩ [0] rfl rfl [true] rfl (w3 := [(q_t, .inr (6, [.ref q_t_house, .int t_acts, .int r1, .int o42, .int o43, .int o44]))]) [0] rfl rfl 0 rfl rfl rfl hl.1 rfl (Nat.le_of_ble_eq_true rfl) ⟨Nat.zero_le _, Nat.zero_le _⟩ dX6_attempt_34 (fun H locs hP hD hS => ?_)
      have hP : va_P D vwCl [(q_t, .inr (6, [.ref q_t_house, .int t_acts, .int r1, .int o42, .int o43, .int o44])), (q_t_house, .inr (1, [.int t_house_there, .int o38, .int o39, .ref q_t_house_ills, .ref q_t_house_roomOf, .ref q_t_house_effects, .ref q_t_house_badFor, .ref q_t_house_likes, .ref q_t_house_sights])), (q_t_house_ills, .inl (G 0, 18, .inl o40)), (q_t_house_roomOf, .inl (G 0, 6, .inl t_house_roomOf)), (q_t_house_effects, .inl (G 0, 12, .inl t_house_effects)), (q_t_house_badFor, .inl (G 0, 36, .inl t_house_badFor))] H := hP
      have hD : va_D A [(q_t, .inr (6, [.ref q_t_house, .int t_acts, .int r1, .int o42, .int o43, .int o44])), (q_t_house, .inr (1, [.int t_house_there, .int o38, .int o39, .ref q_t_house_ills, .ref q_t_house_roomOf, .ref q_t_house_effects, .ref q_t_house_badFor, .ref q_t_house_likes, .ref q_t_house_sights])), (q_t_house_ills, .inl (G 0, 18, .inl o40)), (q_t_house_roomOf, .inl (G 0, 6, .inl t_house_roomOf)), (q_t_house_effects, .inl (G 0, 12, .inl t_house_effects)), (q_t_house_badFor, .inl (G 0, 36, .inl t_house_badFor))] := hD
      refine lv_goto (tgt := 49) hx hb dX6_attempt_37 (by decide) ?_
      exact E32 _ _ _ _ _ _ _ hf H locs hP hD hS ls (lv_sub hl [0] rfl)
  · have hf := ifn c3 hf
    exact RT _ _ _ _ _ _ _ _ _ hf _ _ _ H locs dX6_attempt_20 rkV hP hD hS
set_option maxHeartbeats 4000000 in
set_option maxRecDepth 100000 in
theorem kX6_drawnAim (l : Launch) (D : va_G) (G : Nat → ClassId) (v0 : Int32) {r : Int32} (hf : fX6_drawnAim v0 = some r) : rO l D G yX6_drawnAim cX6_drawnAim 2 (some .int) 1 60 [.int v0] [] (some (.int r)) := by
  refine rO_of (by decide) (Nat.le_of_ble_eq_true rfl) ?_
  intro p e s m args below meth c Q hx hb hml hown hts hK hn hP RET ls hl
  have RT : ∀ (a0_ : Int32), some a0_ = some r → ∀ (pc : Nat) (ls : Array Slot) (ins : Instr), decode cX6_drawnAim pc = .ok (ins, 1) → rk (some .int) (some (.int a0_)) ins → W p l e (kR 1 60) s m args below meth c s.heap [] 0 0 Q (F0 m pc ls [.int a0_]) := by
    intro a0_ hy; obtain rfl := sm1 hy
    exact RET
  have hown : s.vm.findClass RX6 = some m.cls := hown
  have hl : lv_has ls 2 [(0, .int v0)] := hl
  clear RET
  rw [fX6_drawnAim] at hf
  refine lv_iload_n hx hb dX6_drawnAim_0 rfl (lv_at hl 0 rfl) ?_
  refine lv_bipush (v := (8 : Int32)) hx hb dX6_drawnAim_1 (by decide) ?_
  refine lv_irem hx hb dX6_drawnAim_3 (by decide) ?_
  refine lv_topi (fun y1 ey1 => ?_)
  have hf := nmeU ey1 hf
  refine lv_istore_n (lv' := [(1, .int y1), (0, .int v0)]) hx hb dX6_drawnAim_4 rfl hl (by decide) rfl (fun ls hl => ?_)
  refine lv_iload_n hx hb dX6_drawnAim_5 rfl (lv_at hl 0 rfl) ?_
  refine lv_iconst (v := (4 : Int32)) hx hb dX6_drawnAim_6 (by decide) ?_
  refine lv_icmp_ge (tgt := 12) hx hb dX6_drawnAim_7 (by decide) (fun c2 => ?_) (fun c2 => ?_)
  · have hf := ifp c2 hf
    refine lv_iload_n hx hb dX6_drawnAim_12 rfl (lv_at hl 0 rfl) ?_
    refine lv_bipush (v := (6 : Int32)) hx hb dX6_drawnAim_13 (by decide) ?_
    refine lv_icmp_ge (tgt := 22) hx hb dX6_drawnAim_15 (by decide) (fun c3 => ?_) (fun c3 => ?_)
    · have hf := ifp c3 hf
      refine lv_iload_n hx hb dX6_drawnAim_22 rfl (lv_at hl 1 rfl) ?_
      refine lv_bipush (v := (48 : Int32)) hx hb dX6_drawnAim_23 (by decide) ?_
      refine lv_idiv hx hb dX6_drawnAim_25 (by decide) ?_
      refine lv_iconst (v := (4 : Int32)) hx hb dX6_drawnAim_26 (by decide) ?_
      refine lv_irem hx hb dX6_drawnAim_27 (by decide) ?_
      exact RT _ hf _ _ _ dX6_drawnAim_28 (rkI _)
    · have hf := ifn c3 hf
      refine lv_iconst (v := (4 : Int32)) hx hb dX6_drawnAim_18 (by decide) ?_
      refine lv_goto (tgt := 28) hx hb dX6_drawnAim_19 (by decide) ?_
      exact RT _ hf _ _ _ dX6_drawnAim_28 (rkI _)
  · have hf := ifn c2 hf
    refine lv_iconst (v := (5 : Int32)) hx hb dX6_drawnAim_10 (by decide) ?_
    exact RT _ hf _ _ _ dX6_drawnAim_11 (rkI _)
set_option maxHeartbeats 4000000 in
set_option maxRecDepth 100000 in
theorem kX6_start (l : Launch) (D : va_G) (G : Nat → ClassId) (q_t q_p1 q_t_house q_t_house_ills q_t_house_roomOf q_t_house_effects q_t_house_badFor q_t_house_likes q_t_house_sights q_t_house_sights_before q_t_house_sights_hours q_t_house_sights_after q_p1_ills q_p1_roomOf q_p1_effects q_p1_badFor q_p1_likes q_p1_sights q_p1_sights_before q_p1_sights_hours q_p1_sights_after : Nat) (t_acts : Int32) (t_why : Int32) (t_hours : Int32) (t_worseHour : Int32) (t_worsePiece : Int32) (t_house_there : Int32) (t_house_sat : Int32) (t_house_hour : Int32) (t_house_ills : Nat → Int32) (t_house_roomOf : Nat → Int32) (t_house_effects : Nat → Int32) (t_house_badFor : Nat → Int32) (t_house_likes : Nat → Int32) (t_house_sights_count : Int32) (t_house_sights_before : Nat → Int32) (t_house_sights_hours : Nat → Int32) (t_house_sights_after : Nat → Int32) (p1_there : Int32) (p1_sat : Int32) (p1_hour : Int32) (p1_ills : Nat → Int32) (p1_roomOf : Nat → Int32) (p1_effects : Nat → Int32) (p1_badFor : Nat → Int32) (p1_likes : Nat → Int32) (p1_sights_count : Int32) (p1_sights_before : Nat → Int32) (p1_sights_hours : Nat → Int32) (p1_sights_after : Nat → Int32) {o_t_acts : Int32} {o_t_why : Int32} {o_t_hours : Int32} {o_t_worseHour : Int32} {o_t_worsePiece : Int32} {o_t_house_there : Int32} {o_t_house_sat : Int32} {o_t_house_hour : Int32} {o_t_house_ills : Nat → Int32} {o_t_house_roomOf : Nat → Int32} {o_t_house_effects : Nat → Int32} {o_t_house_badFor : Nat → Int32} {o_t_house_likes : Nat → Int32} {o_t_house_sights_count : Int32} {o_t_house_sights_before : Nat → Int32} {o_t_house_sights_hours : Nat → Int32} {o_t_house_sights_after : Nat → Int32} (hf : fX6_start t_acts t_why t_hours t_worseHour t_worsePiece t_house_there t_house_sat t_house_hour t_house_ills t_house_roomOf t_house_effects t_house_badFor t_house_likes t_house_sights_count t_house_sights_before t_house_sights_hours t_house_sights_after p1_there p1_sat p1_hour p1_ills p1_roomOf p1_effects p1_badFor p1_likes p1_sights_count p1_sights_before p1_sights_hours p1_sights_after = some (o_t_acts, o_t_why, o_t_hours, o_t_worseHour, o_t_worsePiece, o_t_house_there, o_t_house_sat, o_t_house_hour, o_t_house_ills, o_t_house_roomOf, o_t_house_effects, o_t_house_badFor, o_t_house_likes, o_t_house_sights_count, o_t_house_sights_before, o_t_house_sights_hours, o_t_house_sights_after)) : rW l D G yX6_start cX6_start 2 none 4 162 [.ref q_t, .ref q_p1] [(q_t, .inr (6, [.ref q_t_house, .int t_acts, .int t_why, .int t_hours, .int t_worseHour, .int t_worsePiece])), (q_t_house, .inr (1, [.int t_house_there, .int t_house_sat, .int t_house_hour, .ref q_t_house_ills, .ref q_t_house_roomOf, .ref q_t_house_effects, .ref q_t_house_badFor, .ref q_t_house_likes, .ref q_t_house_sights])), (q_t_house_ills, .inl (G 0, 18, .inl t_house_ills)), (q_t_house_roomOf, .inl (G 0, 6, .inl t_house_roomOf)), (q_t_house_effects, .inl (G 0, 12, .inl t_house_effects)), (q_t_house_badFor, .inl (G 0, 36, .inl t_house_badFor)), (q_t_house_likes, .inl (G 0, 6, .inl t_house_likes)), (q_t_house_sights, .inr (5, [.int t_house_sights_count, .ref q_t_house_sights_before, .ref q_t_house_sights_hours, .ref q_t_house_sights_after])), (q_t_house_sights_before, .inl (G 0, 8, .inl t_house_sights_before)), (q_t_house_sights_hours, .inl (G 0, 8, .inl t_house_sights_hours)), (q_t_house_sights_after, .inl (G 0, 8, .inl t_house_sights_after)), (q_p1, .inr (1, [.int p1_there, .int p1_sat, .int p1_hour, .ref q_p1_ills, .ref q_p1_roomOf, .ref q_p1_effects, .ref q_p1_badFor, .ref q_p1_likes, .ref q_p1_sights])), (q_p1_ills, .inl (G 0, 18, .inl p1_ills)), (q_p1_roomOf, .inl (G 0, 6, .inl p1_roomOf)), (q_p1_effects, .inl (G 0, 12, .inl p1_effects)), (q_p1_badFor, .inl (G 0, 36, .inl p1_badFor)), (q_p1_likes, .inl (G 0, 6, .inl p1_likes)), (q_p1_sights, .inr (5, [.int p1_sights_count, .ref q_p1_sights_before, .ref q_p1_sights_hours, .ref q_p1_sights_after])), (q_p1_sights_before, .inl (G 0, 8, .inl p1_sights_before)), (q_p1_sights_hours, .inl (G 0, 8, .inl p1_sights_hours)), (q_p1_sights_after, .inl (G 0, 8, .inl p1_sights_after))] [(q_t, .inr (6, [.ref q_t_house, .int o_t_acts, .int o_t_why, .int o_t_hours, .int o_t_worseHour, .int o_t_worsePiece])), (q_t_house, .inr (1, [.int o_t_house_there, .int o_t_house_sat, .int o_t_house_hour, .ref q_t_house_ills, .ref q_t_house_roomOf, .ref q_t_house_effects, .ref q_t_house_badFor, .ref q_t_house_likes, .ref q_t_house_sights])), (q_t_house_ills, .inl (G 0, 18, .inl o_t_house_ills)), (q_t_house_roomOf, .inl (G 0, 6, .inl o_t_house_roomOf)), (q_t_house_effects, .inl (G 0, 12, .inl o_t_house_effects)), (q_t_house_badFor, .inl (G 0, 36, .inl o_t_house_badFor)), (q_t_house_likes, .inl (G 0, 6, .inl o_t_house_likes)), (q_t_house_sights, .inr (5, [.int o_t_house_sights_count, .ref q_t_house_sights_before, .ref q_t_house_sights_hours, .ref q_t_house_sights_after])), (q_t_house_sights_before, .inl (G 0, 8, .inl o_t_house_sights_before)), (q_t_house_sights_hours, .inl (G 0, 8, .inl o_t_house_sights_hours)), (q_t_house_sights_after, .inl (G 0, 8, .inl o_t_house_sights_after)), (q_p1, .inr (1, [.int p1_there, .int p1_sat, .int p1_hour, .ref q_p1_ills, .ref q_p1_roomOf, .ref q_p1_effects, .ref q_p1_badFor, .ref q_p1_likes, .ref q_p1_sights])), (q_p1_ills, .inl (G 0, 18, .inl p1_ills)), (q_p1_roomOf, .inl (G 0, 6, .inl p1_roomOf)), (q_p1_effects, .inl (G 0, 12, .inl p1_effects)), (q_p1_badFor, .inl (G 0, 36, .inl p1_badFor)), (q_p1_likes, .inl (G 0, 6, .inl p1_likes)), (q_p1_sights, .inr (5, [.int p1_sights_count, .ref q_p1_sights_before, .ref q_p1_sights_hours, .ref q_p1_sights_after])), (q_p1_sights_before, .inl (G 0, 8, .inl p1_sights_before)), (q_p1_sights_hours, .inl (G 0, 8, .inl p1_sights_hours)), (q_p1_sights_after, .inl (G 0, 8, .inl p1_sights_after))] none := by
  refine rW_of (by decide) (Nat.le_of_ble_eq_true rfl) ?_
  intro p e s m args below meth c Q A hx hb hml hown hts hK hn hA RET H locs hP hD hS ls hl
  have RT : ∀ (a0_ : Int32) (a1_ : Int32) (a2_ : Int32) (a3_ : Int32) (a4_ : Int32) (a5_ : Int32) (a6_ : Int32) (a7_ : Int32) (a8_ : Nat → Int32) (a9_ : Nat → Int32) (a10_ : Nat → Int32) (a11_ : Nat → Int32) (a12_ : Nat → Int32) (a13_ : Int32) (a14_ : Nat → Int32) (a15_ : Nat → Int32) (a16_ : Nat → Int32), some (a0_, a1_, a2_, a3_, a4_, a5_, a6_, a7_, a8_, a9_, a10_, a11_, a12_, a13_, a14_, a15_, a16_) = some (o_t_acts, o_t_why, o_t_hours, o_t_worseHour, o_t_worsePiece, o_t_house_there, o_t_house_sat, o_t_house_hour, o_t_house_ills, o_t_house_roomOf, o_t_house_effects, o_t_house_badFor, o_t_house_likes, o_t_house_sights_count, o_t_house_sights_before, o_t_house_sights_hours, o_t_house_sights_after) → ∀ (pc : Nat) (ls : Array Slot) (ins : Instr) (H : Heap) (locs : List Loc), decode cX6_start pc = .ok (ins, 1) → rk none none ins → va_P D vwCl [(q_t, .inr (6, [.ref q_t_house, .int a0_, .int a1_, .int a2_, .int a3_, .int a4_])), (q_t_house, .inr (1, [.int a5_, .int a6_, .int a7_, .ref q_t_house_ills, .ref q_t_house_roomOf, .ref q_t_house_effects, .ref q_t_house_badFor, .ref q_t_house_likes, .ref q_t_house_sights])), (q_t_house_ills, .inl (G 0, 18, .inl a8_)), (q_t_house_roomOf, .inl (G 0, 6, .inl a9_)), (q_t_house_effects, .inl (G 0, 12, .inl a10_)), (q_t_house_badFor, .inl (G 0, 36, .inl a11_)), (q_t_house_likes, .inl (G 0, 6, .inl a12_)), (q_t_house_sights, .inr (5, [.int a13_, .ref q_t_house_sights_before, .ref q_t_house_sights_hours, .ref q_t_house_sights_after])), (q_t_house_sights_before, .inl (G 0, 8, .inl a14_)), (q_t_house_sights_hours, .inl (G 0, 8, .inl a15_)), (q_t_house_sights_after, .inl (G 0, 8, .inl a16_)), (q_p1, .inr (1, [.int p1_there, .int p1_sat, .int p1_hour, .ref q_p1_ills, .ref q_p1_roomOf, .ref q_p1_effects, .ref q_p1_badFor, .ref q_p1_likes, .ref q_p1_sights])), (q_p1_ills, .inl (G 0, 18, .inl p1_ills)), (q_p1_roomOf, .inl (G 0, 6, .inl p1_roomOf)), (q_p1_effects, .inl (G 0, 12, .inl p1_effects)), (q_p1_badFor, .inl (G 0, 36, .inl p1_badFor)), (q_p1_likes, .inl (G 0, 6, .inl p1_likes)), (q_p1_sights, .inr (5, [.int p1_sights_count, .ref q_p1_sights_before, .ref q_p1_sights_hours, .ref q_p1_sights_after])), (q_p1_sights_before, .inl (G 0, 8, .inl p1_sights_before)), (q_p1_sights_hours, .inl (G 0, 8, .inl p1_sights_hours)), (q_p1_sights_after, .inl (G 0, 8, .inl p1_sights_after))] H → va_D A [(q_t, .inr (6, [.ref q_t_house, .int a0_, .int a1_, .int a2_, .int a3_, .int a4_])), (q_t_house, .inr (1, [.int a5_, .int a6_, .int a7_, .ref q_t_house_ills, .ref q_t_house_roomOf, .ref q_t_house_effects, .ref q_t_house_badFor, .ref q_t_house_likes, .ref q_t_house_sights])), (q_t_house_ills, .inl (G 0, 18, .inl a8_)), (q_t_house_roomOf, .inl (G 0, 6, .inl a9_)), (q_t_house_effects, .inl (G 0, 12, .inl a10_)), (q_t_house_badFor, .inl (G 0, 36, .inl a11_)), (q_t_house_likes, .inl (G 0, 6, .inl a12_)), (q_t_house_sights, .inr (5, [.int a13_, .ref q_t_house_sights_before, .ref q_t_house_sights_hours, .ref q_t_house_sights_after])), (q_t_house_sights_before, .inl (G 0, 8, .inl a14_)), (q_t_house_sights_hours, .inl (G 0, 8, .inl a15_)), (q_t_house_sights_after, .inl (G 0, 8, .inl a16_)), (q_p1, .inr (1, [.int p1_there, .int p1_sat, .int p1_hour, .ref q_p1_ills, .ref q_p1_roomOf, .ref q_p1_effects, .ref q_p1_badFor, .ref q_p1_likes, .ref q_p1_sights])), (q_p1_ills, .inl (G 0, 18, .inl p1_ills)), (q_p1_roomOf, .inl (G 0, 6, .inl p1_roomOf)), (q_p1_effects, .inl (G 0, 12, .inl p1_effects)), (q_p1_badFor, .inl (G 0, 36, .inl p1_badFor)), (q_p1_likes, .inl (G 0, 6, .inl p1_likes)), (q_p1_sights, .inr (5, [.int p1_sights_count, .ref q_p1_sights_before, .ref q_p1_sights_hours, .ref q_p1_sights_after])), (q_p1_sights_before, .inl (G 0, 8, .inl p1_sights_before)), (q_p1_sights_hours, .inl (G 0, 8, .inl p1_sights_hours)), (q_p1_sights_after, .inl (G 0, 8, .inl p1_sights_after))] → va_S A s.heap H locs → W p l e (kR 4 162) s m args below meth c H locs 0 0 Q (F0 m pc ls []) := by
    intro a0_ a1_ a2_ a3_ a4_ a5_ a6_ a7_ a8_ a9_ a10_ a11_ a12_ a13_ a14_ a15_ a16_ hy; obtain ⟨rfl, rfl, rfl, rfl, rfl, rfl, rfl, rfl, rfl, rfl, rfl, rfl, rfl, rfl, rfl, rfl, rfl⟩ := sm17 hy
    exact RET
  have hown : s.vm.findClass RX6 = some m.cls := hown
  have hl : lv_has ls 2 [(0, .ref q_t), (1, .ref q_p1)] := hl
  clear RET
  rw [fX6_start] at hf
  refine lv_aload_n hx hb dX6_start_0 rfl (lv_at hl 0 rfl) ?_
  refine va_get (D := D) (ci := 6) (v := .ref q_t_house) (C := RX6) (T := TX6) (N := 6) hx hb hts inX6 hown hK hP 0 rfl rfl 0 (by decide) (hts _ lfX6_12) (fun _ h9 => h9) rfl dX6_start_1 ?_
  refine lv_aload_n hx hb dX6_start_4 rfl (lv_at hl 1 rfl) ?_
  obtain ⟨o1, o2, o3, o4, o5, o6, o7, o8, o9, o10, o11, o12, h13, hf⟩ := bd12E hf
  refine kW_virt0 hx hb hml hown hts hK hn hA hP hD hS (kX1_takeFrom l D G q_t_house q_p1 q_t_house_ills q_t_house_roomOf q_t_house_effects q_t_house_badFor q_t_house_likes q_t_house_sights q_t_house_sights_before q_t_house_sights_hours q_t_house_sights_after q_p1_ills q_p1_roomOf q_p1_effects q_p1_badFor q_p1_likes q_p1_sights q_p1_sights_before q_p1_sights_hours q_p1_sights_after t_house_there t_house_sat t_house_hour t_house_ills t_house_roomOf t_house_effects t_house_badFor t_house_likes t_house_sights_count t_house_sights_before t_house_sights_hours t_house_sights_after p1_there p1_sat p1_hour p1_ills p1_roomOf p1_effects p1_badFor p1_likes p1_sights_count p1_sights_before p1_sights_hours p1_sights_after h13) cvX6_50 ⟨Nat.le_of_ble_eq_true rfl, Nat.le_of_ble_eq_true rfl⟩ [1, 2, 3, 4, 5, 6, 7, 8, 9, 10, 11, 12, 13, 14, 15, 16, 17, 18, 19, 20] rfl rfl [false, true, true, true, true, true, true, true, true, true, true, true, true, true, true, true, true, true, true, true, true] rfl (w3 := [(q_t_house, .inr (1, [.int o1, .int o2, .int o3, .ref q_t_house_ills, .ref q_t_house_roomOf, .ref q_t_house_effects, .ref q_t_house_badFor, .ref q_t_house_likes, .ref q_t_house_sights])), (q_t_house_ills, .inl (G 0, 18, .inl o4)), (q_t_house_roomOf, .inl (G 0, 6, .inl o5)), (q_t_house_effects, .inl (G 0, 12, .inl o6)), (q_t_house_badFor, .inl (G 0, 36, .inl o7)), (q_t_house_likes, .inl (G 0, 6, .inl o8)), (q_t_house_sights, .inr (5, [.int o9, .ref q_t_house_sights_before, .ref q_t_house_sights_hours, .ref q_t_house_sights_after])), (q_t_house_sights_before, .inl (G 0, 8, .inl o10)), (q_t_house_sights_hours, .inl (G 0, 8, .inl o11)), (q_t_house_sights_after, .inl (G 0, 8, .inl o12)), (q_p1, .inr (1, [.int p1_there, .int p1_sat, .int p1_hour, .ref q_p1_ills, .ref q_p1_roomOf, .ref q_p1_effects, .ref q_p1_badFor, .ref q_p1_likes, .ref q_p1_sights])), (q_p1_ills, .inl (G 0, 18, .inl p1_ills)), (q_p1_roomOf, .inl (G 0, 6, .inl p1_roomOf)), (q_p1_effects, .inl (G 0, 12, .inl p1_effects)), (q_p1_badFor, .inl (G 0, 36, .inl p1_badFor)), (q_p1_likes, .inl (G 0, 6, .inl p1_likes)), (q_p1_sights, .inr (5, [.int p1_sights_count, .ref q_p1_sights_before, .ref q_p1_sights_hours, .ref q_p1_sights_after])), (q_p1_sights_before, .inl (G 0, 8, .inl p1_sights_before)), (q_p1_sights_hours, .inl (G 0, 8, .inl p1_sights_hours)), (q_p1_sights_after, .inl (G 0, 8, .inl p1_sights_after))]) [0, 1, 2, 3, 4, 5, 6, 7, 8, 9, 10, 11, 12, 13, 14, 15, 16, 17, 18, 19] rfl rfl 1 rfl rfl rfl hl.1 rfl (Nat.le_of_ble_eq_true rfl) ⟨Nat.zero_le _, Nat.zero_le _⟩ dX6_start_5 (fun H locs hP hD hS => ?_)
  have hP : va_P D vwCl [(q_t, .inr (6, [.ref q_t_house, .int t_acts, .int t_why, .int t_hours, .int t_worseHour, .int t_worsePiece])), (q_t_house, .inr (1, [.int o1, .int o2, .int o3, .ref q_t_house_ills, .ref q_t_house_roomOf, .ref q_t_house_effects, .ref q_t_house_badFor, .ref q_t_house_likes, .ref q_t_house_sights])), (q_t_house_ills, .inl (G 0, 18, .inl o4)), (q_t_house_roomOf, .inl (G 0, 6, .inl o5)), (q_t_house_effects, .inl (G 0, 12, .inl o6)), (q_t_house_badFor, .inl (G 0, 36, .inl o7)), (q_t_house_likes, .inl (G 0, 6, .inl o8)), (q_t_house_sights, .inr (5, [.int o9, .ref q_t_house_sights_before, .ref q_t_house_sights_hours, .ref q_t_house_sights_after])), (q_t_house_sights_before, .inl (G 0, 8, .inl o10)), (q_t_house_sights_hours, .inl (G 0, 8, .inl o11)), (q_t_house_sights_after, .inl (G 0, 8, .inl o12)), (q_p1, .inr (1, [.int p1_there, .int p1_sat, .int p1_hour, .ref q_p1_ills, .ref q_p1_roomOf, .ref q_p1_effects, .ref q_p1_badFor, .ref q_p1_likes, .ref q_p1_sights])), (q_p1_ills, .inl (G 0, 18, .inl p1_ills)), (q_p1_roomOf, .inl (G 0, 6, .inl p1_roomOf)), (q_p1_effects, .inl (G 0, 12, .inl p1_effects)), (q_p1_badFor, .inl (G 0, 36, .inl p1_badFor)), (q_p1_likes, .inl (G 0, 6, .inl p1_likes)), (q_p1_sights, .inr (5, [.int p1_sights_count, .ref q_p1_sights_before, .ref q_p1_sights_hours, .ref q_p1_sights_after])), (q_p1_sights_before, .inl (G 0, 8, .inl p1_sights_before)), (q_p1_sights_hours, .inl (G 0, 8, .inl p1_sights_hours)), (q_p1_sights_after, .inl (G 0, 8, .inl p1_sights_after))] H := hP
  have hD : va_D A [(q_t, .inr (6, [.ref q_t_house, .int t_acts, .int t_why, .int t_hours, .int t_worseHour, .int t_worsePiece])), (q_t_house, .inr (1, [.int o1, .int o2, .int o3, .ref q_t_house_ills, .ref q_t_house_roomOf, .ref q_t_house_effects, .ref q_t_house_badFor, .ref q_t_house_likes, .ref q_t_house_sights])), (q_t_house_ills, .inl (G 0, 18, .inl o4)), (q_t_house_roomOf, .inl (G 0, 6, .inl o5)), (q_t_house_effects, .inl (G 0, 12, .inl o6)), (q_t_house_badFor, .inl (G 0, 36, .inl o7)), (q_t_house_likes, .inl (G 0, 6, .inl o8)), (q_t_house_sights, .inr (5, [.int o9, .ref q_t_house_sights_before, .ref q_t_house_sights_hours, .ref q_t_house_sights_after])), (q_t_house_sights_before, .inl (G 0, 8, .inl o10)), (q_t_house_sights_hours, .inl (G 0, 8, .inl o11)), (q_t_house_sights_after, .inl (G 0, 8, .inl o12)), (q_p1, .inr (1, [.int p1_there, .int p1_sat, .int p1_hour, .ref q_p1_ills, .ref q_p1_roomOf, .ref q_p1_effects, .ref q_p1_badFor, .ref q_p1_likes, .ref q_p1_sights])), (q_p1_ills, .inl (G 0, 18, .inl p1_ills)), (q_p1_roomOf, .inl (G 0, 6, .inl p1_roomOf)), (q_p1_effects, .inl (G 0, 12, .inl p1_effects)), (q_p1_badFor, .inl (G 0, 36, .inl p1_badFor)), (q_p1_likes, .inl (G 0, 6, .inl p1_likes)), (q_p1_sights, .inr (5, [.int p1_sights_count, .ref q_p1_sights_before, .ref q_p1_sights_hours, .ref q_p1_sights_after])), (q_p1_sights_before, .inl (G 0, 8, .inl p1_sights_before)), (q_p1_sights_hours, .inl (G 0, 8, .inl p1_sights_hours)), (q_p1_sights_after, .inl (G 0, 8, .inl p1_sights_after))] := hD
  refine lv_aload_n hx hb dX6_start_8 rfl (lv_at hl 0 rfl) ?_
  refine lv_iconst (v := (0 : Int32)) hx hb dX6_start_9 (by decide) ?_
  refine va_put (D := D) (ci := 6) (v := .int (0 : Int32)) (ty := .int) (C := RX6) (T := TX6) (N := 6) hx hb hts inX6 tyX6 tyX6_ok nmX6 hown hK hP hD hS 0 rfl rfl 1 (by decide) (hts _ lfX6_53) (fun _ h9 => h9) rfl (tyX6_ok 1 (by decide)) rfl rfl (Nat.le_of_ble_eq_true rfl) dX6_start_10 (fun H locs hP hD hS => ?_)
  have hP : va_P D vwCl [(q_t, .inr (6, [.ref q_t_house, .int (0 : Int32), .int t_why, .int t_hours, .int t_worseHour, .int t_worsePiece])), (q_t_house, .inr (1, [.int o1, .int o2, .int o3, .ref q_t_house_ills, .ref q_t_house_roomOf, .ref q_t_house_effects, .ref q_t_house_badFor, .ref q_t_house_likes, .ref q_t_house_sights])), (q_t_house_ills, .inl (G 0, 18, .inl o4)), (q_t_house_roomOf, .inl (G 0, 6, .inl o5)), (q_t_house_effects, .inl (G 0, 12, .inl o6)), (q_t_house_badFor, .inl (G 0, 36, .inl o7)), (q_t_house_likes, .inl (G 0, 6, .inl o8)), (q_t_house_sights, .inr (5, [.int o9, .ref q_t_house_sights_before, .ref q_t_house_sights_hours, .ref q_t_house_sights_after])), (q_t_house_sights_before, .inl (G 0, 8, .inl o10)), (q_t_house_sights_hours, .inl (G 0, 8, .inl o11)), (q_t_house_sights_after, .inl (G 0, 8, .inl o12)), (q_p1, .inr (1, [.int p1_there, .int p1_sat, .int p1_hour, .ref q_p1_ills, .ref q_p1_roomOf, .ref q_p1_effects, .ref q_p1_badFor, .ref q_p1_likes, .ref q_p1_sights])), (q_p1_ills, .inl (G 0, 18, .inl p1_ills)), (q_p1_roomOf, .inl (G 0, 6, .inl p1_roomOf)), (q_p1_effects, .inl (G 0, 12, .inl p1_effects)), (q_p1_badFor, .inl (G 0, 36, .inl p1_badFor)), (q_p1_likes, .inl (G 0, 6, .inl p1_likes)), (q_p1_sights, .inr (5, [.int p1_sights_count, .ref q_p1_sights_before, .ref q_p1_sights_hours, .ref q_p1_sights_after])), (q_p1_sights_before, .inl (G 0, 8, .inl p1_sights_before)), (q_p1_sights_hours, .inl (G 0, 8, .inl p1_sights_hours)), (q_p1_sights_after, .inl (G 0, 8, .inl p1_sights_after))] H := hP
  have hD : va_D A [(q_t, .inr (6, [.ref q_t_house, .int (0 : Int32), .int t_why, .int t_hours, .int t_worseHour, .int t_worsePiece])), (q_t_house, .inr (1, [.int o1, .int o2, .int o3, .ref q_t_house_ills, .ref q_t_house_roomOf, .ref q_t_house_effects, .ref q_t_house_badFor, .ref q_t_house_likes, .ref q_t_house_sights])), (q_t_house_ills, .inl (G 0, 18, .inl o4)), (q_t_house_roomOf, .inl (G 0, 6, .inl o5)), (q_t_house_effects, .inl (G 0, 12, .inl o6)), (q_t_house_badFor, .inl (G 0, 36, .inl o7)), (q_t_house_likes, .inl (G 0, 6, .inl o8)), (q_t_house_sights, .inr (5, [.int o9, .ref q_t_house_sights_before, .ref q_t_house_sights_hours, .ref q_t_house_sights_after])), (q_t_house_sights_before, .inl (G 0, 8, .inl o10)), (q_t_house_sights_hours, .inl (G 0, 8, .inl o11)), (q_t_house_sights_after, .inl (G 0, 8, .inl o12)), (q_p1, .inr (1, [.int p1_there, .int p1_sat, .int p1_hour, .ref q_p1_ills, .ref q_p1_roomOf, .ref q_p1_effects, .ref q_p1_badFor, .ref q_p1_likes, .ref q_p1_sights])), (q_p1_ills, .inl (G 0, 18, .inl p1_ills)), (q_p1_roomOf, .inl (G 0, 6, .inl p1_roomOf)), (q_p1_effects, .inl (G 0, 12, .inl p1_effects)), (q_p1_badFor, .inl (G 0, 36, .inl p1_badFor)), (q_p1_likes, .inl (G 0, 6, .inl p1_likes)), (q_p1_sights, .inr (5, [.int p1_sights_count, .ref q_p1_sights_before, .ref q_p1_sights_hours, .ref q_p1_sights_after])), (q_p1_sights_before, .inl (G 0, 8, .inl p1_sights_before)), (q_p1_sights_hours, .inl (G 0, 8, .inl p1_sights_hours)), (q_p1_sights_after, .inl (G 0, 8, .inl p1_sights_after))] := hD
  refine lv_aload_n hx hb dX6_start_13 rfl (lv_at hl 0 rfl) ?_
  refine lv_iconst (v := (0 : Int32)) hx hb dX6_start_14 (by decide) ?_
  refine va_put (D := D) (ci := 6) (v := .int (0 : Int32)) (ty := .int) (C := RX6) (T := TX6) (N := 6) hx hb hts inX6 tyX6 tyX6_ok nmX6 hown hK hP hD hS 0 rfl rfl 2 (by decide) (hts _ lfX6_28) (fun _ h9 => h9) rfl (tyX6_ok 2 (by decide)) rfl rfl (Nat.le_of_ble_eq_true rfl) dX6_start_15 (fun H locs hP hD hS => ?_)
  have hP : va_P D vwCl [(q_t, .inr (6, [.ref q_t_house, .int (0 : Int32), .int (0 : Int32), .int t_hours, .int t_worseHour, .int t_worsePiece])), (q_t_house, .inr (1, [.int o1, .int o2, .int o3, .ref q_t_house_ills, .ref q_t_house_roomOf, .ref q_t_house_effects, .ref q_t_house_badFor, .ref q_t_house_likes, .ref q_t_house_sights])), (q_t_house_ills, .inl (G 0, 18, .inl o4)), (q_t_house_roomOf, .inl (G 0, 6, .inl o5)), (q_t_house_effects, .inl (G 0, 12, .inl o6)), (q_t_house_badFor, .inl (G 0, 36, .inl o7)), (q_t_house_likes, .inl (G 0, 6, .inl o8)), (q_t_house_sights, .inr (5, [.int o9, .ref q_t_house_sights_before, .ref q_t_house_sights_hours, .ref q_t_house_sights_after])), (q_t_house_sights_before, .inl (G 0, 8, .inl o10)), (q_t_house_sights_hours, .inl (G 0, 8, .inl o11)), (q_t_house_sights_after, .inl (G 0, 8, .inl o12)), (q_p1, .inr (1, [.int p1_there, .int p1_sat, .int p1_hour, .ref q_p1_ills, .ref q_p1_roomOf, .ref q_p1_effects, .ref q_p1_badFor, .ref q_p1_likes, .ref q_p1_sights])), (q_p1_ills, .inl (G 0, 18, .inl p1_ills)), (q_p1_roomOf, .inl (G 0, 6, .inl p1_roomOf)), (q_p1_effects, .inl (G 0, 12, .inl p1_effects)), (q_p1_badFor, .inl (G 0, 36, .inl p1_badFor)), (q_p1_likes, .inl (G 0, 6, .inl p1_likes)), (q_p1_sights, .inr (5, [.int p1_sights_count, .ref q_p1_sights_before, .ref q_p1_sights_hours, .ref q_p1_sights_after])), (q_p1_sights_before, .inl (G 0, 8, .inl p1_sights_before)), (q_p1_sights_hours, .inl (G 0, 8, .inl p1_sights_hours)), (q_p1_sights_after, .inl (G 0, 8, .inl p1_sights_after))] H := hP
  have hD : va_D A [(q_t, .inr (6, [.ref q_t_house, .int (0 : Int32), .int (0 : Int32), .int t_hours, .int t_worseHour, .int t_worsePiece])), (q_t_house, .inr (1, [.int o1, .int o2, .int o3, .ref q_t_house_ills, .ref q_t_house_roomOf, .ref q_t_house_effects, .ref q_t_house_badFor, .ref q_t_house_likes, .ref q_t_house_sights])), (q_t_house_ills, .inl (G 0, 18, .inl o4)), (q_t_house_roomOf, .inl (G 0, 6, .inl o5)), (q_t_house_effects, .inl (G 0, 12, .inl o6)), (q_t_house_badFor, .inl (G 0, 36, .inl o7)), (q_t_house_likes, .inl (G 0, 6, .inl o8)), (q_t_house_sights, .inr (5, [.int o9, .ref q_t_house_sights_before, .ref q_t_house_sights_hours, .ref q_t_house_sights_after])), (q_t_house_sights_before, .inl (G 0, 8, .inl o10)), (q_t_house_sights_hours, .inl (G 0, 8, .inl o11)), (q_t_house_sights_after, .inl (G 0, 8, .inl o12)), (q_p1, .inr (1, [.int p1_there, .int p1_sat, .int p1_hour, .ref q_p1_ills, .ref q_p1_roomOf, .ref q_p1_effects, .ref q_p1_badFor, .ref q_p1_likes, .ref q_p1_sights])), (q_p1_ills, .inl (G 0, 18, .inl p1_ills)), (q_p1_roomOf, .inl (G 0, 6, .inl p1_roomOf)), (q_p1_effects, .inl (G 0, 12, .inl p1_effects)), (q_p1_badFor, .inl (G 0, 36, .inl p1_badFor)), (q_p1_likes, .inl (G 0, 6, .inl p1_likes)), (q_p1_sights, .inr (5, [.int p1_sights_count, .ref q_p1_sights_before, .ref q_p1_sights_hours, .ref q_p1_sights_after])), (q_p1_sights_before, .inl (G 0, 8, .inl p1_sights_before)), (q_p1_sights_hours, .inl (G 0, 8, .inl p1_sights_hours)), (q_p1_sights_after, .inl (G 0, 8, .inl p1_sights_after))] := hD
  refine lv_aload_n hx hb dX6_start_18 rfl (lv_at hl 0 rfl) ?_
  refine lv_iconst (v := (0 : Int32)) hx hb dX6_start_19 (by decide) ?_
  refine va_put (D := D) (ci := 6) (v := .int (0 : Int32)) (ty := .int) (C := RX6) (T := TX6) (N := 6) hx hb hts inX6 tyX6 tyX6_ok nmX6 hown hK hP hD hS 0 rfl rfl 3 (by decide) (hts _ lfX6_56) (fun _ h9 => h9) rfl (tyX6_ok 3 (by decide)) rfl rfl (Nat.le_of_ble_eq_true rfl) dX6_start_20 (fun H locs hP hD hS => ?_)
  have hP : va_P D vwCl [(q_t, .inr (6, [.ref q_t_house, .int (0 : Int32), .int (0 : Int32), .int (0 : Int32), .int t_worseHour, .int t_worsePiece])), (q_t_house, .inr (1, [.int o1, .int o2, .int o3, .ref q_t_house_ills, .ref q_t_house_roomOf, .ref q_t_house_effects, .ref q_t_house_badFor, .ref q_t_house_likes, .ref q_t_house_sights])), (q_t_house_ills, .inl (G 0, 18, .inl o4)), (q_t_house_roomOf, .inl (G 0, 6, .inl o5)), (q_t_house_effects, .inl (G 0, 12, .inl o6)), (q_t_house_badFor, .inl (G 0, 36, .inl o7)), (q_t_house_likes, .inl (G 0, 6, .inl o8)), (q_t_house_sights, .inr (5, [.int o9, .ref q_t_house_sights_before, .ref q_t_house_sights_hours, .ref q_t_house_sights_after])), (q_t_house_sights_before, .inl (G 0, 8, .inl o10)), (q_t_house_sights_hours, .inl (G 0, 8, .inl o11)), (q_t_house_sights_after, .inl (G 0, 8, .inl o12)), (q_p1, .inr (1, [.int p1_there, .int p1_sat, .int p1_hour, .ref q_p1_ills, .ref q_p1_roomOf, .ref q_p1_effects, .ref q_p1_badFor, .ref q_p1_likes, .ref q_p1_sights])), (q_p1_ills, .inl (G 0, 18, .inl p1_ills)), (q_p1_roomOf, .inl (G 0, 6, .inl p1_roomOf)), (q_p1_effects, .inl (G 0, 12, .inl p1_effects)), (q_p1_badFor, .inl (G 0, 36, .inl p1_badFor)), (q_p1_likes, .inl (G 0, 6, .inl p1_likes)), (q_p1_sights, .inr (5, [.int p1_sights_count, .ref q_p1_sights_before, .ref q_p1_sights_hours, .ref q_p1_sights_after])), (q_p1_sights_before, .inl (G 0, 8, .inl p1_sights_before)), (q_p1_sights_hours, .inl (G 0, 8, .inl p1_sights_hours)), (q_p1_sights_after, .inl (G 0, 8, .inl p1_sights_after))] H := hP
  have hD : va_D A [(q_t, .inr (6, [.ref q_t_house, .int (0 : Int32), .int (0 : Int32), .int (0 : Int32), .int t_worseHour, .int t_worsePiece])), (q_t_house, .inr (1, [.int o1, .int o2, .int o3, .ref q_t_house_ills, .ref q_t_house_roomOf, .ref q_t_house_effects, .ref q_t_house_badFor, .ref q_t_house_likes, .ref q_t_house_sights])), (q_t_house_ills, .inl (G 0, 18, .inl o4)), (q_t_house_roomOf, .inl (G 0, 6, .inl o5)), (q_t_house_effects, .inl (G 0, 12, .inl o6)), (q_t_house_badFor, .inl (G 0, 36, .inl o7)), (q_t_house_likes, .inl (G 0, 6, .inl o8)), (q_t_house_sights, .inr (5, [.int o9, .ref q_t_house_sights_before, .ref q_t_house_sights_hours, .ref q_t_house_sights_after])), (q_t_house_sights_before, .inl (G 0, 8, .inl o10)), (q_t_house_sights_hours, .inl (G 0, 8, .inl o11)), (q_t_house_sights_after, .inl (G 0, 8, .inl o12)), (q_p1, .inr (1, [.int p1_there, .int p1_sat, .int p1_hour, .ref q_p1_ills, .ref q_p1_roomOf, .ref q_p1_effects, .ref q_p1_badFor, .ref q_p1_likes, .ref q_p1_sights])), (q_p1_ills, .inl (G 0, 18, .inl p1_ills)), (q_p1_roomOf, .inl (G 0, 6, .inl p1_roomOf)), (q_p1_effects, .inl (G 0, 12, .inl p1_effects)), (q_p1_badFor, .inl (G 0, 36, .inl p1_badFor)), (q_p1_likes, .inl (G 0, 6, .inl p1_likes)), (q_p1_sights, .inr (5, [.int p1_sights_count, .ref q_p1_sights_before, .ref q_p1_sights_hours, .ref q_p1_sights_after])), (q_p1_sights_before, .inl (G 0, 8, .inl p1_sights_before)), (q_p1_sights_hours, .inl (G 0, 8, .inl p1_sights_hours)), (q_p1_sights_after, .inl (G 0, 8, .inl p1_sights_after))] := hD
  refine lv_aload_n hx hb dX6_start_23 rfl (lv_at hl 0 rfl) ?_
  refine lv_bipush (v := (-6 : Int32)) hx hb dX6_start_24 (by decide) ?_
  refine va_put (D := D) (ci := 6) (v := .int (-6 : Int32)) (ty := .int) (C := RX6) (T := TX6) (N := 6) hx hb hts inX6 tyX6 tyX6_ok nmX6 hown hK hP hD hS 0 rfl rfl 4 (by decide) (hts _ lfX6_59) (fun _ h9 => h9) rfl (tyX6_ok 4 (by decide)) rfl rfl (Nat.le_of_ble_eq_true rfl) dX6_start_26 (fun H locs hP hD hS => ?_)
  have hP : va_P D vwCl [(q_t, .inr (6, [.ref q_t_house, .int (0 : Int32), .int (0 : Int32), .int (0 : Int32), .int (-6 : Int32), .int t_worsePiece])), (q_t_house, .inr (1, [.int o1, .int o2, .int o3, .ref q_t_house_ills, .ref q_t_house_roomOf, .ref q_t_house_effects, .ref q_t_house_badFor, .ref q_t_house_likes, .ref q_t_house_sights])), (q_t_house_ills, .inl (G 0, 18, .inl o4)), (q_t_house_roomOf, .inl (G 0, 6, .inl o5)), (q_t_house_effects, .inl (G 0, 12, .inl o6)), (q_t_house_badFor, .inl (G 0, 36, .inl o7)), (q_t_house_likes, .inl (G 0, 6, .inl o8)), (q_t_house_sights, .inr (5, [.int o9, .ref q_t_house_sights_before, .ref q_t_house_sights_hours, .ref q_t_house_sights_after])), (q_t_house_sights_before, .inl (G 0, 8, .inl o10)), (q_t_house_sights_hours, .inl (G 0, 8, .inl o11)), (q_t_house_sights_after, .inl (G 0, 8, .inl o12)), (q_p1, .inr (1, [.int p1_there, .int p1_sat, .int p1_hour, .ref q_p1_ills, .ref q_p1_roomOf, .ref q_p1_effects, .ref q_p1_badFor, .ref q_p1_likes, .ref q_p1_sights])), (q_p1_ills, .inl (G 0, 18, .inl p1_ills)), (q_p1_roomOf, .inl (G 0, 6, .inl p1_roomOf)), (q_p1_effects, .inl (G 0, 12, .inl p1_effects)), (q_p1_badFor, .inl (G 0, 36, .inl p1_badFor)), (q_p1_likes, .inl (G 0, 6, .inl p1_likes)), (q_p1_sights, .inr (5, [.int p1_sights_count, .ref q_p1_sights_before, .ref q_p1_sights_hours, .ref q_p1_sights_after])), (q_p1_sights_before, .inl (G 0, 8, .inl p1_sights_before)), (q_p1_sights_hours, .inl (G 0, 8, .inl p1_sights_hours)), (q_p1_sights_after, .inl (G 0, 8, .inl p1_sights_after))] H := hP
  have hD : va_D A [(q_t, .inr (6, [.ref q_t_house, .int (0 : Int32), .int (0 : Int32), .int (0 : Int32), .int (-6 : Int32), .int t_worsePiece])), (q_t_house, .inr (1, [.int o1, .int o2, .int o3, .ref q_t_house_ills, .ref q_t_house_roomOf, .ref q_t_house_effects, .ref q_t_house_badFor, .ref q_t_house_likes, .ref q_t_house_sights])), (q_t_house_ills, .inl (G 0, 18, .inl o4)), (q_t_house_roomOf, .inl (G 0, 6, .inl o5)), (q_t_house_effects, .inl (G 0, 12, .inl o6)), (q_t_house_badFor, .inl (G 0, 36, .inl o7)), (q_t_house_likes, .inl (G 0, 6, .inl o8)), (q_t_house_sights, .inr (5, [.int o9, .ref q_t_house_sights_before, .ref q_t_house_sights_hours, .ref q_t_house_sights_after])), (q_t_house_sights_before, .inl (G 0, 8, .inl o10)), (q_t_house_sights_hours, .inl (G 0, 8, .inl o11)), (q_t_house_sights_after, .inl (G 0, 8, .inl o12)), (q_p1, .inr (1, [.int p1_there, .int p1_sat, .int p1_hour, .ref q_p1_ills, .ref q_p1_roomOf, .ref q_p1_effects, .ref q_p1_badFor, .ref q_p1_likes, .ref q_p1_sights])), (q_p1_ills, .inl (G 0, 18, .inl p1_ills)), (q_p1_roomOf, .inl (G 0, 6, .inl p1_roomOf)), (q_p1_effects, .inl (G 0, 12, .inl p1_effects)), (q_p1_badFor, .inl (G 0, 36, .inl p1_badFor)), (q_p1_likes, .inl (G 0, 6, .inl p1_likes)), (q_p1_sights, .inr (5, [.int p1_sights_count, .ref q_p1_sights_before, .ref q_p1_sights_hours, .ref q_p1_sights_after])), (q_p1_sights_before, .inl (G 0, 8, .inl p1_sights_before)), (q_p1_sights_hours, .inl (G 0, 8, .inl p1_sights_hours)), (q_p1_sights_after, .inl (G 0, 8, .inl p1_sights_after))] := hD
  refine lv_aload_n hx hb dX6_start_29 rfl (lv_at hl 0 rfl) ?_
  refine lv_bipush (v := (-6 : Int32)) hx hb dX6_start_30 (by decide) ?_
  refine va_put (D := D) (ci := 6) (v := .int (-6 : Int32)) (ty := .int) (C := RX6) (T := TX6) (N := 6) hx hb hts inX6 tyX6 tyX6_ok nmX6 hown hK hP hD hS 0 rfl rfl 5 (by decide) (hts _ lfX6_62) (fun _ h9 => h9) rfl (tyX6_ok 5 (by decide)) rfl rfl (Nat.le_of_ble_eq_true rfl) dX6_start_32 (fun H locs hP hD hS => ?_)
  have hP : va_P D vwCl [(q_t, .inr (6, [.ref q_t_house, .int (0 : Int32), .int (0 : Int32), .int (0 : Int32), .int (-6 : Int32), .int (-6 : Int32)])), (q_t_house, .inr (1, [.int o1, .int o2, .int o3, .ref q_t_house_ills, .ref q_t_house_roomOf, .ref q_t_house_effects, .ref q_t_house_badFor, .ref q_t_house_likes, .ref q_t_house_sights])), (q_t_house_ills, .inl (G 0, 18, .inl o4)), (q_t_house_roomOf, .inl (G 0, 6, .inl o5)), (q_t_house_effects, .inl (G 0, 12, .inl o6)), (q_t_house_badFor, .inl (G 0, 36, .inl o7)), (q_t_house_likes, .inl (G 0, 6, .inl o8)), (q_t_house_sights, .inr (5, [.int o9, .ref q_t_house_sights_before, .ref q_t_house_sights_hours, .ref q_t_house_sights_after])), (q_t_house_sights_before, .inl (G 0, 8, .inl o10)), (q_t_house_sights_hours, .inl (G 0, 8, .inl o11)), (q_t_house_sights_after, .inl (G 0, 8, .inl o12)), (q_p1, .inr (1, [.int p1_there, .int p1_sat, .int p1_hour, .ref q_p1_ills, .ref q_p1_roomOf, .ref q_p1_effects, .ref q_p1_badFor, .ref q_p1_likes, .ref q_p1_sights])), (q_p1_ills, .inl (G 0, 18, .inl p1_ills)), (q_p1_roomOf, .inl (G 0, 6, .inl p1_roomOf)), (q_p1_effects, .inl (G 0, 12, .inl p1_effects)), (q_p1_badFor, .inl (G 0, 36, .inl p1_badFor)), (q_p1_likes, .inl (G 0, 6, .inl p1_likes)), (q_p1_sights, .inr (5, [.int p1_sights_count, .ref q_p1_sights_before, .ref q_p1_sights_hours, .ref q_p1_sights_after])), (q_p1_sights_before, .inl (G 0, 8, .inl p1_sights_before)), (q_p1_sights_hours, .inl (G 0, 8, .inl p1_sights_hours)), (q_p1_sights_after, .inl (G 0, 8, .inl p1_sights_after))] H := hP
  have hD : va_D A [(q_t, .inr (6, [.ref q_t_house, .int (0 : Int32), .int (0 : Int32), .int (0 : Int32), .int (-6 : Int32), .int (-6 : Int32)])), (q_t_house, .inr (1, [.int o1, .int o2, .int o3, .ref q_t_house_ills, .ref q_t_house_roomOf, .ref q_t_house_effects, .ref q_t_house_badFor, .ref q_t_house_likes, .ref q_t_house_sights])), (q_t_house_ills, .inl (G 0, 18, .inl o4)), (q_t_house_roomOf, .inl (G 0, 6, .inl o5)), (q_t_house_effects, .inl (G 0, 12, .inl o6)), (q_t_house_badFor, .inl (G 0, 36, .inl o7)), (q_t_house_likes, .inl (G 0, 6, .inl o8)), (q_t_house_sights, .inr (5, [.int o9, .ref q_t_house_sights_before, .ref q_t_house_sights_hours, .ref q_t_house_sights_after])), (q_t_house_sights_before, .inl (G 0, 8, .inl o10)), (q_t_house_sights_hours, .inl (G 0, 8, .inl o11)), (q_t_house_sights_after, .inl (G 0, 8, .inl o12)), (q_p1, .inr (1, [.int p1_there, .int p1_sat, .int p1_hour, .ref q_p1_ills, .ref q_p1_roomOf, .ref q_p1_effects, .ref q_p1_badFor, .ref q_p1_likes, .ref q_p1_sights])), (q_p1_ills, .inl (G 0, 18, .inl p1_ills)), (q_p1_roomOf, .inl (G 0, 6, .inl p1_roomOf)), (q_p1_effects, .inl (G 0, 12, .inl p1_effects)), (q_p1_badFor, .inl (G 0, 36, .inl p1_badFor)), (q_p1_likes, .inl (G 0, 6, .inl p1_likes)), (q_p1_sights, .inr (5, [.int p1_sights_count, .ref q_p1_sights_before, .ref q_p1_sights_hours, .ref q_p1_sights_after])), (q_p1_sights_before, .inl (G 0, 8, .inl p1_sights_before)), (q_p1_sights_hours, .inl (G 0, 8, .inl p1_sights_hours)), (q_p1_sights_after, .inl (G 0, 8, .inl p1_sights_after))] := hD
  exact RT _ _ _ _ _ _ _ _ _ _ _ _ _ _ _ _ _ hf _ _ _ H locs dX6_start_35 rkV hP hD hS
