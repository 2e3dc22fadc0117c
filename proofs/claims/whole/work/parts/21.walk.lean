set_option maxHeartbeats 4000000 in
set_option maxRecDepth 100000 in
theorem kX1_illsOfAll (l : Launch) (D : va_G) (G : Nat → ClassId) (fu : Nat) (q_t q_t_ills q_t_roomOf q_t_effects q_t_badFor q_t_likes q_t_sights : Nat) (t_there : Int32) (t_sat : Int32) (t_hour : Int32) (t_ills : Nat → Int32) {r : Int32} (hf : fX1_illsOfAll fu t_there t_ills = some r) : rO l D G yX1_illsOfAll cX1_illsOfAll 3 (some .int) 3 103 [.ref q_t] [(q_t, .inr (1, [.int t_there, .int t_sat, .int t_hour, .ref q_t_ills, .ref q_t_roomOf, .ref q_t_effects, .ref q_t_badFor, .ref q_t_likes, .ref q_t_sights])), (q_t_ills, .inl (G 0, 18, .inl t_ills))] (some (.int r)) := by
  refine rO_of (by decide) (Nat.le_of_ble_eq_true rfl) ?_
  intro p e s m args below meth c Q hx hb hml hown hts hK hn hP RET ls hl
  have RT : ∀ (a0_ : Int32), some a0_ = some r → ∀ (pc : Nat) (ls : Array Slot) (ins : Instr), decode cX1_illsOfAll pc = .ok (ins, 1) → rk (some .int) (some (.int a0_)) ins → W p l e (kR 3 103) s m args below meth c s.heap [] 0 0 Q (F0 m pc ls [.int a0_]) := by
    intro a0_ hy; obtain rfl := sm1 hy
    exact RET
  have hown : s.vm.findClass RX1 = some m.cls := hown
  have hl : lv_has ls 3 [(0, .ref q_t)] := hl
  clear RET
  rw [fX1_illsOfAll] at hf
  refine lv_iconst (v := (0 : Int32)) hx hb dX1_illsOfAll_0 (by decide) ?_
  refine lv_istore_n (lv' := [(1, .int (0 : Int32)), (0, .ref q_t)]) hx hb dX1_illsOfAll_1 rfl hl (by decide) rfl (fun ls hl => ?_)
  refine lv_iconst (v := (0 : Int32)) hx hb dX1_illsOfAll_2 (by decide) ?_
  refine lv_istore_n (lv' := [(2, .int (0 : Int32)), (1, .int (0 : Int32)), (0, .ref q_t)]) hx hb dX1_illsOfAll_3 rfl hl (by decide) rfl (fun ls hl => ?_)
  obtain ⟨u24, h28, hf⟩ := bd1E hf
  have E25 : ∀ (z46 : Int32), some z46 = some u24 → ∀ ls : Array Slot, lv_has ls 3 [(1, .int z46)] → W p l e (kR 3 103) s m args below meth c s.heap [] 0 0 Q (F0 m 36 ls []) := by
    intro z46 hy; obtain rfl := sm1 hy
    intro ls hl
    refine lv_iload_n hx hb dX1_illsOfAll_36 rfl (lv_at hl 0 rfl) ?_
    exact RT _ hf _ _ _ dX1_illsOfAll_37 (rkI _)
  have L26 : ∀ (k : Nat) (w22 : Int32) (w23 : Int32), fX1_illsOfAll_4 t_there t_ills k w22 w23 = some u24 → ∀ ls : Array Slot, lv_has ls 3 [(0, .ref q_t), (1, .int w22), (2, .int w23)] → W p l e (kR 3 103) s m args below meth c s.heap [] 0 0 Q (F0 m 4 ls []) := by
    intro k; induction k with
    | zero => intro w22 w23 hf; exact nosome hf
    | succ k ih =>
      intro w22 w23 hf; rw [fX1_illsOfAll_4] at hf
      intro ls hl
      refine lv_iload_n hx hb dX1_illsOfAll_4 rfl (lv_at hl 2 rfl) ?_
      refine lv_bipush (v := (6 : Int32)) hx hb dX1_illsOfAll_5 (by decide) ?_
      refine lv_icmp_ge (tgt := 36) hx hb dX1_illsOfAll_7 (by decide) (fun c31 => ?_) (fun c31 => ?_)
      · have hf := ifp c31 hf
        exact E25 _ hf ls (lv_sub hl [1] rfl)
      · have hf := ifn c31 hf
        refine lv_iload_n hx hb dX1_illsOfAll_10 rfl (lv_at hl 1 rfl) ?_
        refine lv_aload_n hx hb dX1_illsOfAll_11 rfl (lv_at hl 0 rfl) ?_
        refine lv_iload_n hx hb dX1_illsOfAll_12 rfl (lv_at hl 2 rfl) ?_
        obtain ⟨r32, h33, hf⟩ := bd1E hf
        refine kO_virt hx hb hml hown hts hK hn hP (kX1_isThere l D G q_t q_t_ills q_t_roomOf q_t_effects q_t_badFor q_t_likes q_t_sights t_there t_sat t_hour w23 h33) cvX1_58 ⟨Nat.le_of_ble_eq_true rfl, Nat.le_of_ble_eq_true rfl⟩ [0] rfl 0 rfl rfl rfl hl.1 rfl (Nat.le_of_ble_eq_true rfl) ⟨Nat.zero_le _, Nat.zero_le _⟩ dX1_illsOfAll_13 ?_
        obtain ⟨j37, h45, hf⟩ := bd1E hf
        have E41 : ∀ (z38 : Int32), some z38 = some j37 → ∀ ls : Array Slot, lv_has ls 3 [(0, .ref q_t), (2, .int w23)] → W p l e (kR 3 103) s m args below meth c s.heap [] 0 0 Q (F0 m 28 ls [.int z38, .int w22]) := by
          intro z38 hy; obtain rfl := sm1 hy
          intro ls hl
          refine lv_iadd hx hb dX1_illsOfAll_28 ?_
          refine lv_topi (fun y39 ey39 => ?_)
          have hf := nmeU ey39 hf
          refine lv_istore_n (lv' := [(1, .int y39), (0, .ref q_t), (2, .int w23)]) hx hb dX1_illsOfAll_29 rfl hl (by decide) rfl (fun ls hl => ?_)
          obtain ⟨y40, ey40⟩ : ∃ y : Int32, y = w23 + (1 : Int32) := ⟨_, rfl⟩
          have hf := nmeU ey40 hf
          refine lv_iinc (v := y40) (lv' := [(2, .int y40), (1, .int y39), (0, .ref q_t)]) hx hb dX1_illsOfAll_30 hl (k := 2) rfl (by rw [ey40]; rfl) (by decide) rfl (fun ls hl => ?_)
          refine lv_goto (tgt := 4) hx hb dX1_illsOfAll_33 (by decide) ?_
          exact ih _ _ hf ls (lv_sub hl [2, 1, 0] rfl)
        have hf := h45
        refine lv_if_eq (tgt := 27) hx hb dX1_illsOfAll_16 (by decide) (fun c42 => ?_) (fun c42 => ?_)
        · have hf := ifp c42 hf
          refine lv_iconst (v := (0 : Int32)) hx hb dX1_illsOfAll_27 (by decide) ?_
          exact E41 _ hf ls (lv_sub hl [0, 2] rfl)
        · have hf := ifn c42 hf
          refine lv_aload_n hx hb dX1_illsOfAll_19 rfl (lv_at hl 0 rfl) ?_
          refine lv_iload_n hx hb dX1_illsOfAll_20 rfl (lv_at hl 2 rfl) ?_
          obtain ⟨r43, h44, hf⟩ := bd1E hf
          refine kO_virt hx hb hml hown hts hK hn hP (kX1_illsOf l D G q_t q_t_ills q_t_roomOf q_t_effects q_t_badFor q_t_likes q_t_sights t_there t_sat t_hour t_ills w23 h44) cvX1_62 ⟨Nat.le_of_ble_eq_true rfl, Nat.le_of_ble_eq_true rfl⟩ [0, 1] rfl 0 rfl rfl rfl hl.1 rfl (Nat.le_of_ble_eq_true rfl) ⟨Nat.zero_le _, Nat.zero_le _⟩ dX1_illsOfAll_21 ?_
          refine lv_goto (tgt := 28) hx hb dX1_illsOfAll_24 (by decide) ?_
          exact E41 _ hf ls (lv_sub hl [0, 2] rfl)
  exact L26 fu (0 : Int32) (0 : Int32) h28 ls (lv_sub hl [2, 1, 0] rfl)
set_option maxHeartbeats 4000000 in
set_option maxRecDepth 100000 in
theorem kX1_isSatIn (l : Launch) (D : va_G) (G : Nat → ClassId) (q_t q_t_ills q_t_roomOf q_t_effects q_t_badFor q_t_likes q_t_sights : Nat) (t_there : Int32) (t_sat : Int32) (t_hour : Int32) (v1 : Int32) {r : Int32} (hf : fX1_isSatIn t_sat v1 = some r) : rO l D G yX1_isSatIn cX1_isSatIn 2 (some .boolean) 1 60 [.ref q_t, .int v1] [(q_t, .inr (1, [.int t_there, .int t_sat, .int t_hour, .ref q_t_ills, .ref q_t_roomOf, .ref q_t_effects, .ref q_t_badFor, .ref q_t_likes, .ref q_t_sights]))] (some (.int r)) := by
  refine rO_of (by decide) (Nat.le_of_ble_eq_true rfl) ?_
  intro p e s m args below meth c Q hx hb hml hown hts hK hn hP RET ls hl
  have RT : ∀ (a0_ : Int32), some a0_ = some r → ∀ (pc : Nat) (ls : Array Slot) (ins : Instr), decode cX1_isSatIn pc = .ok (ins, 1) → rk (some .boolean) (some (.int a0_)) ins → W p l e (kR 1 60) s m args below meth c s.heap [] 0 0 Q (F0 m pc ls [.int a0_]) := by
    intro a0_ hy; obtain rfl := sm1 hy
    exact RET
  have hown : s.vm.findClass RX1 = some m.cls := hown
  have hl : lv_has ls 2 [(0, .ref q_t), (1, .int v1)] := hl
  clear RET
  rw [fX1_isSatIn] at hf
  refine lv_aload_n hx hb dX1_isSatIn_0 rfl (lv_at hl 0 rfl) ?_
  refine va_get (D := D) (ci := 1) (v := .int t_sat) (C := RX1) (T := TX1) (N := 9) hx hb hts inX1 hown hK hP 0 rfl rfl 1 (by decide) (hts _ lfX1_38) (fun _ h9 => h9) rfl dX1_isSatIn_1 ?_
  refine lv_iload_n hx hb dX1_isSatIn_4 rfl (lv_at hl 1 rfl) ?_
  refine lv_ishr hx hb dX1_isSatIn_5 ?_
  refine lv_iconst (v := (1 : Int32)) hx hb dX1_isSatIn_6 (by decide) ?_
  refine lv_iand hx hb dX1_isSatIn_7 ?_
  refine lv_iconst (v := (1 : Int32)) hx hb dX1_isSatIn_8 (by decide) ?_
  refine lv_icmp_ne (tgt := 16) hx hb dX1_isSatIn_9 (by decide) (fun c1 => ?_) (fun c1 => ?_)
  · have hf := ifn c1 hf
    refine lv_iconst (v := (0 : Int32)) hx hb dX1_isSatIn_16 (by decide) ?_
    exact RT _ hf _ _ _ dX1_isSatIn_17 (rkZ (Or.inl rfl))
  · have hf := ifp c1 hf
    refine lv_iconst (v := (1 : Int32)) hx hb dX1_isSatIn_12 (by decide) ?_
    refine lv_goto (tgt := 17) hx hb dX1_isSatIn_13 (by decide) ?_
    exact RT _ hf _ _ _ dX1_isSatIn_17 (rkZ (Or.inr rfl))
set_option maxHeartbeats 4000000 in
set_option maxRecDepth 100000 in
theorem kX1_passHourOf (l : Launch) (D : va_G) (G : Nat → ClassId) (fu : Nat) (q_t q_t_ills q_t_roomOf q_t_effects q_t_badFor q_t_likes q_t_sights : Nat) (t_there : Int32) (t_sat : Int32) (t_hour : Int32) (t_ills : Nat → Int32) (t_roomOf : Nat → Int32) (t_effects : Nat → Int32) (t_badFor : Nat → Int32) (v1 : Int32) {o_t_ills : Nat → Int32} (hf : fX1_passHourOf fu t_there t_sat t_ills t_roomOf t_effects t_badFor v1 = some o_t_ills) : rW l D G yX1_passHourOf cX1_passHourOf 5 none 2 86 [.ref q_t, .int v1] [(q_t, .inr (1, [.int t_there, .int t_sat, .int t_hour, .ref q_t_ills, .ref q_t_roomOf, .ref q_t_effects, .ref q_t_badFor, .ref q_t_likes, .ref q_t_sights])), (q_t_ills, .inl (G 0, 18, .inl t_ills)), (q_t_roomOf, .inl (G 0, 6, .inl t_roomOf)), (q_t_effects, .inl (G 0, 12, .inl t_effects)), (q_t_badFor, .inl (G 0, 36, .inl t_badFor))] [(q_t, .inr (1, [.int t_there, .int t_sat, .int t_hour, .ref q_t_ills, .ref q_t_roomOf, .ref q_t_effects, .ref q_t_badFor, .ref q_t_likes, .ref q_t_sights])), (q_t_ills, .inl (G 0, 18, .inl o_t_ills)), (q_t_roomOf, .inl (G 0, 6, .inl t_roomOf)), (q_t_effects, .inl (G 0, 12, .inl t_effects)), (q_t_badFor, .inl (G 0, 36, .inl t_badFor))] none := by
  refine rW_of (by decide) (Nat.le_of_ble_eq_true rfl) ?_
  intro p e s m args below meth c Q A hx hb hml hown hts hK hn hA RET H locs hP hD hS ls hl
  have RT : ∀ (a0_ : Nat → Int32), some a0_ = some o_t_ills → ∀ (pc : Nat) (ls : Array Slot) (ins : Instr) (H : Heap) (locs : List Loc), decode cX1_passHourOf pc = .ok (ins, 1) → rk none none ins → va_P D vwCl [(q_t, .inr (1, [.int t_there, .int t_sat, .int t_hour, .ref q_t_ills, .ref q_t_roomOf, .ref q_t_effects, .ref q_t_badFor, .ref q_t_likes, .ref q_t_sights])), (q_t_ills, .inl (G 0, 18, .inl a0_)), (q_t_roomOf, .inl (G 0, 6, .inl t_roomOf)), (q_t_effects, .inl (G 0, 12, .inl t_effects)), (q_t_badFor, .inl (G 0, 36, .inl t_badFor))] H → va_D A [(q_t, .inr (1, [.int t_there, .int t_sat, .int t_hour, .ref q_t_ills, .ref q_t_roomOf, .ref q_t_effects, .ref q_t_badFor, .ref q_t_likes, .ref q_t_sights])), (q_t_ills, .inl (G 0, 18, .inl a0_)), (q_t_roomOf, .inl (G 0, 6, .inl t_roomOf)), (q_t_effects, .inl (G 0, 12, .inl t_effects)), (q_t_badFor, .inl (G 0, 36, .inl t_badFor))] → va_S A s.heap H locs → W p l e (kR 2 86) s m args below meth c H locs 0 0 Q (F0 m pc ls []) := by
    intro a0_ hy; obtain rfl := sm1 hy
    exact RET
  have hown : s.vm.findClass RX1 = some m.cls := hown
  have hl : lv_has ls 5 [(0, .ref q_t), (1, .int v1)] := hl
  clear RET
  rw [fX1_passHourOf] at hf
  refine lv_iload_n hx hb dX1_passHourOf_0 rfl (lv_at hl 1 rfl) ?_
  refine lv_iconst (v := (3 : Int32)) hx hb dX1_passHourOf_1 (by decide) ?_
  refine lv_imul hx hb dX1_passHourOf_2 ?_
  refine lv_topi (fun y1 ey1 => ?_)
  have hf := nmeU ey1 hf
  refine lv_istore_n (lv' := [(2, .int y1), (0, .ref q_t), (1, .int v1)]) hx hb dX1_passHourOf_3 rfl hl (by decide) rfl (fun ls hl => ?_)
  refine lv_aload_n hx hb dX1_passHourOf_4 rfl (lv_at hl 1 rfl) ?_
  refine lv_aload_n hx hb dX1_passHourOf_5 rfl (lv_at hl 1 rfl) ?_
  refine va_get (D := D) (ci := 1) (v := .ref q_t_roomOf) (C := RX1) (T := TX1) (N := 9) hx hb hts inX1 hown hK hP 0 rfl rfl 4 (by decide) (hts _ lfX1_15) (fun _ h9 => h9) rfl dX1_passHourOf_6 ?_
  refine lv_iload_n hx hb dX1_passHourOf_9 rfl (lv_at hl 2 rfl) ?_
  obtain ⟨x2, ex2, ix2, hf⟩ := ldIE hf
  refine k_iald hx hb hK hP 2 0 rfl rfl ix2 ex2 dX1_passHourOf_10 ?_
  obtain ⟨r3, h4, hf⟩ := bd1E hf
  refine kO_virt hx hb hml hown hts hK hn hP (kX1_withPieces l D G fu q_t q_t_ills q_t_roomOf q_t_effects q_t_badFor q_t_likes q_t_sights t_there t_sat t_hour t_roomOf x2 h4) cvX1_73 ⟨Nat.le_of_ble_eq_true rfl, Nat.le_of_ble_eq_true rfl⟩ [0, 2] rfl 0 rfl rfl rfl hl.1 rfl (Nat.le_of_ble_eq_true rfl) ⟨Nat.zero_le _, Nat.zero_le _⟩ dX1_passHourOf_11 ?_
  refine lv_istore_n (lv' := [(3, .int r3), (2, .int y1), (0, .ref q_t), (1, .int v1)]) hx hb dX1_passHourOf_14 rfl hl (by decide) rfl (fun ls hl => ?_)
  refine lv_iconst (v := (0 : Int32)) hx hb dX1_passHourOf_15 (by decide) ?_
  refine lv_istore (lv' := [(4, .int (0 : Int32)), (3, .int r3), (2, .int y1), (0, .ref q_t), (1, .int v1)]) hx hb dX1_passHourOf_16 hl (by decide) rfl (fun ls hl => ?_)
  obtain ⟨u27, h31, hf⟩ := bd1E hf
  have E28 : ∀ (z43 : Nat → Int32), some z43 = some u27 → ∀ (H : Heap) (locs : List Loc), va_P D vwCl [(q_t, .inr (1, [.int t_there, .int t_sat, .int t_hour, .ref q_t_ills, .ref q_t_roomOf, .ref q_t_effects, .ref q_t_badFor, .ref q_t_likes, .ref q_t_sights])), (q_t_ills, .inl (G 0, 18, .inl z43)), (q_t_roomOf, .inl (G 0, 6, .inl t_roomOf)), (q_t_effects, .inl (G 0, 12, .inl t_effects)), (q_t_badFor, .inl (G 0, 36, .inl t_badFor))] H → va_D A [(q_t, .inr (1, [.int t_there, .int t_sat, .int t_hour, .ref q_t_ills, .ref q_t_roomOf, .ref q_t_effects, .ref q_t_badFor, .ref q_t_likes, .ref q_t_sights])), (q_t_ills, .inl (G 0, 18, .inl z43)), (q_t_roomOf, .inl (G 0, 6, .inl t_roomOf)), (q_t_effects, .inl (G 0, 12, .inl t_effects)), (q_t_badFor, .inl (G 0, 36, .inl t_badFor))] → va_S A s.heap H locs → ∀ ls : Array Slot, lv_has ls 5 [(0, .ref q_t), (1, .int v1), (2, .int y1)] → W p l e (kR 2 86) s m args below meth c H locs 0 0 Q (F0 m 66 ls []) := by
    intro z43 hy; obtain rfl := sm1 hy
    intro H locs hP hD hS ls hl
    refine lv_aload_n hx hb dX1_passHourOf_66 rfl (lv_at hl 0 rfl) ?_
    refine lv_iload_n hx hb dX1_passHourOf_67 rfl (lv_at hl 1 rfl) ?_
    obtain ⟨r44, h45, hf⟩ := bd1E hf
    refine kO_virt hx hb hml hown hts hK hn hP (kX1_isSatIn l D G q_t q_t_ills q_t_roomOf q_t_effects q_t_badFor q_t_likes q_t_sights t_there t_sat t_hour v1 h45) cvX1_66 ⟨Nat.le_of_ble_eq_true rfl, Nat.le_of_ble_eq_true rfl⟩ [0] rfl 0 rfl rfl rfl hl.1 rfl (Nat.le_of_ble_eq_true rfl) ⟨Nat.zero_le _, Nat.zero_le _⟩ dX1_passHourOf_68 ?_
    refine lv_if_eq (tgt := 95) hx hb dX1_passHourOf_71 (by decide) (fun c46 => ?_) (fun c46 => ?_)
    · have hf := ifp c46 hf
      exact RT _ hf _ _ _ H locs dX1_passHourOf_95 rkV hP hD hS
    · have hf := ifn c46 hf
      refine lv_aload_n hx hb dX1_passHourOf_74 rfl (lv_at hl 0 rfl) ?_
      refine va_get (D := D) (ci := 1) (v := .ref q_t_ills) (C := RX1) (T := TX1) (N := 9) hx hb hts inX1 hown hK hP 0 rfl rfl 3 (by decide) (hts _ lfX1_9) (fun _ h9 => h9) rfl dX1_passHourOf_75 ?_
      refine lv_iload_n hx hb dX1_passHourOf_78 rfl (lv_at hl 2 rfl) ?_
      refine lv_iconst (v := (0 : Int32)) hx hb dX1_passHourOf_79 (by decide) ?_
      refine lv_iadd hx hb dX1_passHourOf_80 ?_
      refine lv_aload_n hx hb dX1_passHourOf_81 rfl (lv_at hl 0 rfl) ?_
      refine va_get (D := D) (ci := 1) (v := .ref q_t_ills) (C := RX1) (T := TX1) (N := 9) hx hb hts inX1 hown hK hP 0 rfl rfl 3 (by decide) (hts _ lfX1_9) (fun _ h9 => h9) rfl dX1_passHourOf_82 ?_
      refine lv_iload_n hx hb dX1_passHourOf_85 rfl (lv_at hl 2 rfl) ?_
      refine lv_iconst (v := (0 : Int32)) hx hb dX1_passHourOf_86 (by decide) ?_
      refine lv_iadd hx hb dX1_passHourOf_87 ?_
      obtain ⟨x47, ex47, ix47, hf⟩ := ldIE hf
      refine k_iald hx hb hK hP 1 0 rfl rfl ix47 ex47 dX1_passHourOf_88 ?_
      refine lv_iconst (v := (2 : Int32)) hx hb dX1_passHourOf_89 (by decide) ?_
      refine lv_isub hx hb dX1_passHourOf_90 ?_
      obtain ⟨r48, h49, hf⟩ := bd1E hf
      refine kO_nest hx hb hml hown hts hK hn hP (kX7_withinIll l D G (x47 - (2 : Int32)) h49) cnX1_80 ⟨Nat.le_of_ble_eq_true rfl, Nat.le_of_ble_eq_true rfl⟩ [] rfl rfl hl.1 rfl (Nat.le_of_ble_eq_true rfl) ⟨Nat.zero_le _, Nat.zero_le _⟩ dX1_passHourOf_91 ?_
      obtain ⟨g50, eg50, ig50, hf⟩ := stIE hf
      refine k_iast hx hb hK hP hD hS 1 0 rfl rfl ig50 eg50 dX1_passHourOf_94 (fun H locs hP hD hS => ?_)
      have hP : va_P D vwCl [(q_t, .inr (1, [.int t_there, .int t_sat, .int t_hour, .ref q_t_ills, .ref q_t_roomOf, .ref q_t_effects, .ref q_t_badFor, .ref q_t_likes, .ref q_t_sights])), (q_t_ills, .inl (G 0, 18, .inl g50)), (q_t_roomOf, .inl (G 0, 6, .inl t_roomOf)), (q_t_effects, .inl (G 0, 12, .inl t_effects)), (q_t_badFor, .inl (G 0, 36, .inl t_badFor))] H := hP
      have hD : va_D A [(q_t, .inr (1, [.int t_there, .int t_sat, .int t_hour, .ref q_t_ills, .ref q_t_roomOf, .ref q_t_effects, .ref q_t_badFor, .ref q_t_likes, .ref q_t_sights])), (q_t_ills, .inl (G 0, 18, .inl g50)), (q_t_roomOf, .inl (G 0, 6, .inl t_roomOf)), (q_t_effects, .inl (G 0, 12, .inl t_effects)), (q_t_badFor, .inl (G 0, 36, .inl t_badFor))] := hD
      exact RT _ hf _ _ _ H locs dX1_passHourOf_95 rkV hP hD hS
  have L29 : ∀ (k : Nat) (w25 : Int32) (w26 : Nat → Int32), fX1_passHourOf_18 fu y1 t_roomOf v1 t_effects t_badFor r3 k w25 w26 = some u27 → ∀ (H : Heap) (locs : List Loc), va_P D vwCl [(q_t, .inr (1, [.int t_there, .int t_sat, .int t_hour, .ref q_t_ills, .ref q_t_roomOf, .ref q_t_effects, .ref q_t_badFor, .ref q_t_likes, .ref q_t_sights])), (q_t_ills, .inl (G 0, 18, .inl w26)), (q_t_roomOf, .inl (G 0, 6, .inl t_roomOf)), (q_t_effects, .inl (G 0, 12, .inl t_effects)), (q_t_badFor, .inl (G 0, 36, .inl t_badFor))] H → va_D A [(q_t, .inr (1, [.int t_there, .int t_sat, .int t_hour, .ref q_t_ills, .ref q_t_roomOf, .ref q_t_effects, .ref q_t_badFor, .ref q_t_likes, .ref q_t_sights])), (q_t_ills, .inl (G 0, 18, .inl w26)), (q_t_roomOf, .inl (G 0, 6, .inl t_roomOf)), (q_t_effects, .inl (G 0, 12, .inl t_effects)), (q_t_badFor, .inl (G 0, 36, .inl t_badFor))] → va_S A s.heap H locs → ∀ ls : Array Slot, lv_has ls 5 [(0, .ref q_t), (1, .int v1), (2, .int y1), (3, .int r3), (4, .int w25)] → W p l e (kR 2 86) s m args below meth c H locs 0 0 Q (F0 m 18 ls []) := by
    intro k; induction k with
    | zero => intro w25 w26 hf; exact nosome hf
    | succ k ih =>
      intro w25 w26 hf; rw [fX1_passHourOf_18] at hf
      intro H locs hP hD hS ls hl
      refine lv_iload hx hb dX1_passHourOf_18 (lv_at hl 4 rfl) ?_
      refine lv_iconst (v := (3 : Int32)) hx hb dX1_passHourOf_20 (by decide) ?_
      refine lv_icmp_ge (tgt := 66) hx hb dX1_passHourOf_21 (by decide) (fun c34 => ?_) (fun c34 => ?_)
      · have hf := ifp c34 hf
        exact E28 _ hf H locs hP hD hS ls (lv_sub hl [0, 1, 2] rfl)
      · have hf := ifn c34 hf
        refine lv_aload_n hx hb dX1_passHourOf_24 rfl (lv_at hl 0 rfl) ?_
        refine va_get (D := D) (ci := 1) (v := .ref q_t_ills) (C := RX1) (T := TX1) (N := 9) hx hb hts inX1 hown hK hP 0 rfl rfl 3 (by decide) (hts _ lfX1_9) (fun _ h9 => h9) rfl dX1_passHourOf_25 ?_
        refine lv_iload_n hx hb dX1_passHourOf_28 rfl (lv_at hl 2 rfl) ?_
        refine lv_iload hx hb dX1_passHourOf_29 (lv_at hl 4 rfl) ?_
        refine lv_iadd hx hb dX1_passHourOf_31 ?_
        refine lv_aload_n hx hb dX1_passHourOf_32 rfl (lv_at hl 0 rfl) ?_
        refine va_get (D := D) (ci := 1) (v := .ref q_t_ills) (C := RX1) (T := TX1) (N := 9) hx hb hts inX1 hown hK hP 0 rfl rfl 3 (by decide) (hts _ lfX1_9) (fun _ h9 => h9) rfl dX1_passHourOf_33 ?_
        refine lv_iload_n hx hb dX1_passHourOf_36 rfl (lv_at hl 2 rfl) ?_
        refine lv_iload hx hb dX1_passHourOf_37 (lv_at hl 4 rfl) ?_
        refine lv_iadd hx hb dX1_passHourOf_39 ?_
        obtain ⟨x35, ex35, ix35, hf⟩ := ldIE hf
        refine k_iald hx hb hK hP 1 0 rfl rfl ix35 ex35 dX1_passHourOf_40 ?_
        refine lv_aload_n hx hb dX1_passHourOf_41 rfl (lv_at hl 0 rfl) ?_
        refine lv_iload_n hx hb dX1_passHourOf_42 rfl (lv_at hl 1 rfl) ?_
        refine lv_iload hx hb dX1_passHourOf_43 (lv_at hl 4 rfl) ?_
        refine lv_aload_n hx hb dX1_passHourOf_45 rfl (lv_at hl 0 rfl) ?_
        refine va_get (D := D) (ci := 1) (v := .ref q_t_roomOf) (C := RX1) (T := TX1) (N := 9) hx hb hts inX1 hown hK hP 0 rfl rfl 4 (by decide) (hts _ lfX1_15) (fun _ h9 => h9) rfl dX1_passHourOf_46 ?_
        refine lv_iload_n hx hb dX1_passHourOf_49 rfl (lv_at hl 1 rfl) ?_
        obtain ⟨x36, ex36, ix36, hf⟩ := ldIE hf
        refine k_iald hx hb hK hP 2 0 rfl rfl ix36 ex36 dX1_passHourOf_50 ?_
        refine lv_iload_n hx hb dX1_passHourOf_51 rfl (lv_at hl 3 rfl) ?_
        obtain ⟨r37, h38, hf⟩ := bd1E hf
        refine kO_virt hx hb hml hown hts hK hn hP (kX1_changeOf l D G fu q_t q_t_ills q_t_roomOf q_t_effects q_t_badFor q_t_likes q_t_sights t_there t_sat t_hour t_effects t_badFor v1 w25 x36 r3 h38) cvX1_76 ⟨Nat.le_of_ble_eq_true rfl, Nat.le_of_ble_eq_true rfl⟩ [0, 3, 4] rfl 0 rfl rfl rfl hl.1 rfl (Nat.le_of_ble_eq_true rfl) ⟨Nat.zero_le _, Nat.zero_le _⟩ dX1_passHourOf_52 ?_
        refine lv_iadd hx hb dX1_passHourOf_55 ?_
        obtain ⟨r39, h40, hf⟩ := bd1E hf
        refine kO_nest hx hb hml hown hts hK hn hP (kX7_withinIll l D G (x35 + r37) h40) cnX1_80 ⟨Nat.le_of_ble_eq_true rfl, Nat.le_of_ble_eq_true rfl⟩ [] rfl rfl hl.1 rfl (Nat.le_of_ble_eq_true rfl) ⟨Nat.zero_le _, Nat.zero_le _⟩ dX1_passHourOf_56 ?_
        obtain ⟨g41, eg41, ig41, hf⟩ := stIE hf
        refine k_iast hx hb hK hP hD hS 1 0 rfl rfl ig41 eg41 dX1_passHourOf_59 (fun H locs hP hD hS => ?_)
        have hP : va_P D vwCl [(q_t, .inr (1, [.int t_there, .int t_sat, .int t_hour, .ref q_t_ills, .ref q_t_roomOf, .ref q_t_effects, .ref q_t_badFor, .ref q_t_likes, .ref q_t_sights])), (q_t_ills, .inl (G 0, 18, .inl g41)), (q_t_roomOf, .inl (G 0, 6, .inl t_roomOf)), (q_t_effects, .inl (G 0, 12, .inl t_effects)), (q_t_badFor, .inl (G 0, 36, .inl t_badFor))] H := hP
        have hD : va_D A [(q_t, .inr (1, [.int t_there, .int t_sat, .int t_hour, .ref q_t_ills, .ref q_t_roomOf, .ref q_t_effects, .ref q_t_badFor, .ref q_t_likes, .ref q_t_sights])), (q_t_ills, .inl (G 0, 18, .inl g41)), (q_t_roomOf, .inl (G 0, 6, .inl t_roomOf)), (q_t_effects, .inl (G 0, 12, .inl t_effects)), (q_t_badFor, .inl (G 0, 36, .inl t_badFor))] := hD
        obtain ⟨y42, ey42⟩ : ∃ y : Int32, y = w25 + (1 : Int32) := ⟨_, rfl⟩
        have hf := nmeU ey42 hf
        refine lv_iinc (v := y42) (lv' := [(4, .int y42), (0, .ref q_t), (1, .int v1), (2, .int y1), (3, .int r3)]) hx hb dX1_passHourOf_60 hl (k := 4) rfl (by rw [ey42]; rfl) (by decide) rfl (fun ls hl => ?_)
        refine lv_goto (tgt := 18) hx hb dX1_passHourOf_63 (by decide) ?_
        exact ih _ _ hf H locs hP hD hS ls (lv_sub hl [1, 2, 3, 4, 0] rfl)
  exact L29 fu (0 : Int32) t_ills h31 H locs hP hD hS ls (lv_sub hl [3, 4, 2, 1, 0] rfl)
set_option maxHeartbeats 4000000 in
set_option maxRecDepth 100000 in
theorem kX1_passHour (l : Launch) (D : va_G) (G : Nat → ClassId) (fu : Nat) (q_t q_t_ills q_t_roomOf q_t_effects q_t_badFor q_t_likes q_t_sights : Nat) (t_there : Int32) (t_sat : Int32) (t_hour : Int32) (t_ills : Nat → Int32) (t_roomOf : Nat → Int32) (t_effects : Nat → Int32) (t_badFor : Nat → Int32) {r : Int32} {o_t_sat : Int32} {o_t_hour : Int32} {o_t_ills : Nat → Int32} (hf : fX1_passHour fu t_there t_sat t_hour t_ills t_roomOf t_effects t_badFor = some (r, o_t_sat, o_t_hour, o_t_ills)) : rW l D G yX1_passHour cX1_passHour 4 (some .int) 3 110 [.ref q_t] [(q_t, .inr (1, [.int t_there, .int t_sat, .int t_hour, .ref q_t_ills, .ref q_t_roomOf, .ref q_t_effects, .ref q_t_badFor, .ref q_t_likes, .ref q_t_sights])), (q_t_ills, .inl (G 0, 18, .inl t_ills)), (q_t_roomOf, .inl (G 0, 6, .inl t_roomOf)), (q_t_effects, .inl (G 0, 12, .inl t_effects)), (q_t_badFor, .inl (G 0, 36, .inl t_badFor))] [(q_t, .inr (1, [.int t_there, .int o_t_sat, .int o_t_hour, .ref q_t_ills, .ref q_t_roomOf, .ref q_t_effects, .ref q_t_badFor, .ref q_t_likes, .ref q_t_sights])), (q_t_ills, .inl (G 0, 18, .inl o_t_ills)), (q_t_roomOf, .inl (G 0, 6, .inl t_roomOf)), (q_t_effects, .inl (G 0, 12, .inl t_effects)), (q_t_badFor, .inl (G 0, 36, .inl t_badFor))] (some (.int r)) := by
  refine rW_of (by decide) (Nat.le_of_ble_eq_true rfl) ?_
  intro p e s m args below meth c Q A hx hb hml hown hts hK hn hA RET H locs hP hD hS ls hl
  have RT : ∀ (a0_ : Int32) (a1_ : Int32) (a2_ : Int32) (a3_ : Nat → Int32), some (a0_, a1_, a2_, a3_) = some (r, o_t_sat, o_t_hour, o_t_ills) → ∀ (pc : Nat) (ls : Array Slot) (ins : Instr) (H : Heap) (locs : List Loc), decode cX1_passHour pc = .ok (ins, 1) → rk (some .int) (some (.int a0_)) ins → va_P D vwCl [(q_t, .inr (1, [.int t_there, .int a1_, .int a2_, .ref q_t_ills, .ref q_t_roomOf, .ref q_t_effects, .ref q_t_badFor, .ref q_t_likes, .ref q_t_sights])), (q_t_ills, .inl (G 0, 18, .inl a3_)), (q_t_roomOf, .inl (G 0, 6, .inl t_roomOf)), (q_t_effects, .inl (G 0, 12, .inl t_effects)), (q_t_badFor, .inl (G 0, 36, .inl t_badFor))] H → va_D A [(q_t, .inr (1, [.int t_there, .int a1_, .int a2_, .ref q_t_ills, .ref q_t_roomOf, .ref q_t_effects, .ref q_t_badFor, .ref q_t_likes, .ref q_t_sights])), (q_t_ills, .inl (G 0, 18, .inl a3_)), (q_t_roomOf, .inl (G 0, 6, .inl t_roomOf)), (q_t_effects, .inl (G 0, 12, .inl t_effects)), (q_t_badFor, .inl (G 0, 36, .inl t_badFor))] → va_S A s.heap H locs → W p l e (kR 3 110) s m args below meth c H locs 0 0 Q (F0 m pc ls [.int a0_]) := by
    intro a0_ a1_ a2_ a3_ hy; obtain ⟨rfl, rfl, rfl, rfl⟩ := sm4 hy
    exact RET
  have hown : s.vm.findClass RX1 = some m.cls := hown
  have hl : lv_has ls 4 [(0, .ref q_t)] := hl
  clear RET
  rw [fX1_passHour] at hf
  refine lv_bipush (v := (-6 : Int32)) hx hb dX1_passHour_0 (by decide) ?_
  refine lv_istore_n (lv' := [(1, .int (-6 : Int32)), (0, .ref q_t)]) hx hb dX1_passHour_2 rfl hl (by decide) rfl (fun ls hl => ?_)
  refine lv_iconst (v := (5 : Int32)) hx hb dX1_passHour_3 (by decide) ?_
  refine lv_istore_n (lv' := [(2, .int (5 : Int32)), (1, .int (-6 : Int32)), (0, .ref q_t)]) hx hb dX1_passHour_4 rfl hl (by decide) rfl (fun ls hl => ?_)
  obtain ⟨u49, u50, h54, hf⟩ := bd2E hf
  have E51 : ∀ (z93 : Int32) (z94 : Nat → Int32), some (z93, z94) = some (u49, u50) → ∀ (H : Heap) (locs : List Loc), va_P D vwCl [(q_t, .inr (1, [.int t_there, .int t_sat, .int t_hour, .ref q_t_ills, .ref q_t_roomOf, .ref q_t_effects, .ref q_t_badFor, .ref q_t_likes, .ref q_t_sights])), (q_t_ills, .inl (G 0, 18, .inl z94)), (q_t_roomOf, .inl (G 0, 6, .inl t_roomOf)), (q_t_effects, .inl (G 0, 12, .inl t_effects)), (q_t_badFor, .inl (G 0, 36, .inl t_badFor))] H → va_D A [(q_t, .inr (1, [.int t_there, .int t_sat, .int t_hour, .ref q_t_ills, .ref q_t_roomOf, .ref q_t_effects, .ref q_t_badFor, .ref q_t_likes, .ref q_t_sights])), (q_t_ills, .inl (G 0, 18, .inl z94)), (q_t_roomOf, .inl (G 0, 6, .inl t_roomOf)), (q_t_effects, .inl (G 0, 12, .inl t_effects)), (q_t_badFor, .inl (G 0, 36, .inl t_badFor))] → va_S A s.heap H locs → ∀ ls : Array Slot, lv_has ls 4 [(0, .ref q_t), (1, .int z93)] → W p l e (kR 3 110) s m args below meth c H locs 0 0 Q (F0 m 49 ls []) := by
    intro z93 z94 hy; obtain ⟨rfl, rfl⟩ := sm2 hy
    intro H locs hP hD hS ls hl
    refine lv_aload_n hx hb dX1_passHour_49 rfl (lv_at hl 0 rfl) ?_
    refine lv_iconst (v := (0 : Int32)) hx hb dX1_passHour_50 (by decide) ?_
    refine va_put (D := D) (ci := 1) (v := .int (0 : Int32)) (ty := .int) (C := RX1) (T := TX1) (N := 9) hx hb hts inX1 tyX1 tyX1_ok nmX1 hown hK hP hD hS 0 rfl rfl 1 (by decide) (hts _ lfX1_38) (fun _ h9 => h9) rfl (tyX1_ok 1 (by decide)) rfl rfl (Nat.le_of_ble_eq_true rfl) dX1_passHour_51 (fun H locs hP hD hS => ?_)
    have hP : va_P D vwCl [(q_t, .inr (1, [.int t_there, .int (0 : Int32), .int t_hour, .ref q_t_ills, .ref q_t_roomOf, .ref q_t_effects, .ref q_t_badFor, .ref q_t_likes, .ref q_t_sights])), (q_t_ills, .inl (G 0, 18, .inl z94)), (q_t_roomOf, .inl (G 0, 6, .inl t_roomOf)), (q_t_effects, .inl (G 0, 12, .inl t_effects)), (q_t_badFor, .inl (G 0, 36, .inl t_badFor))] H := hP
    have hD : va_D A [(q_t, .inr (1, [.int t_there, .int (0 : Int32), .int t_hour, .ref q_t_ills, .ref q_t_roomOf, .ref q_t_effects, .ref q_t_badFor, .ref q_t_likes, .ref q_t_sights])), (q_t_ills, .inl (G 0, 18, .inl z94)), (q_t_roomOf, .inl (G 0, 6, .inl t_roomOf)), (q_t_effects, .inl (G 0, 12, .inl t_effects)), (q_t_badFor, .inl (G 0, 36, .inl t_badFor))] := hD
    refine lv_aload_n hx hb dX1_passHour_54 rfl (lv_at hl 0 rfl) ?_
    refine lv_dup hx hb dX1_passHour_55 rfl ?_
    refine va_get (D := D) (ci := 1) (v := .int t_hour) (C := RX1) (T := TX1) (N := 9) hx hb hts inX1 hown hK hP 0 rfl rfl 2 (by decide) (hts _ lfX1_41) (fun _ h9 => h9) rfl dX1_passHour_56 ?_
    refine lv_iconst (v := (1 : Int32)) hx hb dX1_passHour_59 (by decide) ?_
    refine lv_iadd hx hb dX1_passHour_60 ?_
    refine lv_topi (fun y95 ey95 => ?_)
    have hf := nmeU ey95 hf
    refine va_put (D := D) (ci := 1) (v := .int y95) (ty := .int) (C := RX1) (T := TX1) (N := 9) hx hb hts inX1 tyX1 tyX1_ok nmX1 hown hK hP hD hS 0 rfl rfl 2 (by decide) (hts _ lfX1_41) (fun _ h9 => h9) rfl (tyX1_ok 2 (by decide)) rfl rfl (Nat.le_of_ble_eq_true rfl) dX1_passHour_61 (fun H locs hP hD hS => ?_)
    have hP : va_P D vwCl [(q_t, .inr (1, [.int t_there, .int (0 : Int32), .int y95, .ref q_t_ills, .ref q_t_roomOf, .ref q_t_effects, .ref q_t_badFor, .ref q_t_likes, .ref q_t_sights])), (q_t_ills, .inl (G 0, 18, .inl z94)), (q_t_roomOf, .inl (G 0, 6, .inl t_roomOf)), (q_t_effects, .inl (G 0, 12, .inl t_effects)), (q_t_badFor, .inl (G 0, 36, .inl t_badFor))] H := hP
    have hD : va_D A [(q_t, .inr (1, [.int t_there, .int (0 : Int32), .int y95, .ref q_t_ills, .ref q_t_roomOf, .ref q_t_effects, .ref q_t_badFor, .ref q_t_likes, .ref q_t_sights])), (q_t_ills, .inl (G 0, 18, .inl z94)), (q_t_roomOf, .inl (G 0, 6, .inl t_roomOf)), (q_t_effects, .inl (G 0, 12, .inl t_effects)), (q_t_badFor, .inl (G 0, 36, .inl t_badFor))] := hD
    refine lv_iload_n hx hb dX1_passHour_64 rfl (lv_at hl 1 rfl) ?_
    exact RT _ _ _ _ hf _ _ _ H locs dX1_passHour_65 (rkI _) hP hD hS
  have L52 : ∀ (k : Nat) (w46 : Int32) (w47 : Int32) (w48 : Nat → Int32), fX1_passHour_5 fu t_there t_sat t_roomOf t_effects t_badFor k w46 w47 w48 = some (u49, u50) → ∀ (H : Heap) (locs : List Loc), va_P D vwCl [(q_t, .inr (1, [.int t_there, .int t_sat, .int t_hour, .ref q_t_ills, .ref q_t_roomOf, .ref q_t_effects, .ref q_t_badFor, .ref q_t_likes, .ref q_t_sights])), (q_t_ills, .inl (G 0, 18, .inl w48)), (q_t_roomOf, .inl (G 0, 6, .inl t_roomOf)), (q_t_effects, .inl (G 0, 12, .inl t_effects)), (q_t_badFor, .inl (G 0, 36, .inl t_badFor))] H → va_D A [(q_t, .inr (1, [.int t_there, .int t_sat, .int t_hour, .ref q_t_ills, .ref q_t_roomOf, .ref q_t_effects, .ref q_t_badFor, .ref q_t_likes, .ref q_t_sights])), (q_t_ills, .inl (G 0, 18, .inl w48)), (q_t_roomOf, .inl (G 0, 6, .inl t_roomOf)), (q_t_effects, .inl (G 0, 12, .inl t_effects)), (q_t_badFor, .inl (G 0, 36, .inl t_badFor))] → va_S A s.heap H locs → ∀ ls : Array Slot, lv_has ls 4 [(0, .ref q_t), (1, .int w46), (2, .int w47)] → W p l e (kR 3 110) s m args below meth c H locs 0 0 Q (F0 m 5 ls []) := by
    intro k; induction k with
    | zero => intro w46 w47 w48 hf; exact nosome hf
    | succ k ih =>
      intro w46 w47 w48 hf; rw [fX1_passHour_5] at hf
      intro H locs hP hD hS ls hl
      refine lv_iload_n hx hb dX1_passHour_5 rfl (lv_at hl 2 rfl) ?_
      refine lv_if_lt (tgt := 49) hx hb dX1_passHour_6 (by decide) (fun c57 => ?_) (fun c57 => ?_)
      · have hf := ifp c57 hf
        exact E51 _ _ hf H locs hP hD hS ls (lv_sub hl [0, 1] rfl)
      · have hf := ifn c57 hf
        refine lv_aload_n hx hb dX1_passHour_9 rfl (lv_at hl 0 rfl) ?_
        refine lv_iload_n hx hb dX1_passHour_10 rfl (lv_at hl 2 rfl) ?_
        obtain ⟨r58, h59, hf⟩ := bd1E hf
        refine kO_virt hx hb hml hown hts hK hn hP (kX1_isThere l D G q_t q_t_ills q_t_roomOf q_t_effects q_t_badFor q_t_likes q_t_sights t_there t_sat t_hour w47 h59) cvX1_58 ⟨Nat.le_of_ble_eq_true rfl, Nat.le_of_ble_eq_true rfl⟩ [0] rfl 0 rfl rfl rfl hl.1 rfl (Nat.le_of_ble_eq_true rfl) ⟨Nat.zero_le _, Nat.zero_le _⟩ dX1_passHour_11 ?_
        obtain ⟨j73, j74, h92, hf⟩ := bd2E hf
        have E78 : ∀ (z75 : Int32) (z76 : Nat → Int32), some (z75, z76) = some (j73, j74) → ∀ (H : Heap) (locs : List Loc), va_P D vwCl [(q_t, .inr (1, [.int t_there, .int t_sat, .int t_hour, .ref q_t_ills, .ref q_t_roomOf, .ref q_t_effects, .ref q_t_badFor, .ref q_t_likes, .ref q_t_sights])), (q_t_ills, .inl (G 0, 18, .inl z76)), (q_t_roomOf, .inl (G 0, 6, .inl t_roomOf)), (q_t_effects, .inl (G 0, 12, .inl t_effects)), (q_t_badFor, .inl (G 0, 36, .inl t_badFor))] H → va_D A [(q_t, .inr (1, [.int t_there, .int t_sat, .int t_hour, .ref q_t_ills, .ref q_t_roomOf, .ref q_t_effects, .ref q_t_badFor, .ref q_t_likes, .ref q_t_sights])), (q_t_ills, .inl (G 0, 18, .inl z76)), (q_t_roomOf, .inl (G 0, 6, .inl t_roomOf)), (q_t_effects, .inl (G 0, 12, .inl t_effects)), (q_t_badFor, .inl (G 0, 36, .inl t_badFor))] → va_S A s.heap H locs → ∀ ls : Array Slot, lv_has ls 4 [(0, .ref q_t), (1, .int z75), (2, .int w47)] → W p l e (kR 3 110) s m args below meth c H locs 0 0 Q (F0 m 43 ls []) := by
          intro z75 z76 hy; obtain ⟨rfl, rfl⟩ := sm2 hy
          intro H locs hP hD hS ls hl
          obtain ⟨y77, ey77⟩ : ∃ y : Int32, y = w47 + (-1 : Int32) := ⟨_, rfl⟩
          have hf := nmeU ey77 hf
          refine lv_iinc (v := y77) (lv' := [(2, .int y77), (0, .ref q_t), (1, .int z75)]) hx hb dX1_passHour_43 hl (k := 2) rfl (by rw [ey77]; rfl) (by decide) rfl (fun ls hl => ?_)
          refine lv_goto (tgt := 5) hx hb dX1_passHour_46 (by decide) ?_
          exact ih _ _ _ hf H locs hP hD hS ls (lv_sub hl [1, 2, 0] rfl)
        have hf := h92
        refine lv_if_eq (tgt := 43) hx hb dX1_passHour_14 (by decide) (fun c79 => ?_) (fun c79 => ?_)
        · have hf := ifp c79 hf
          exact E78 _ _ hf H locs hP hD hS ls (lv_sub hl [0, 1, 2] rfl)
        · have hf := ifn c79 hf
          refine lv_aload_n hx hb dX1_passHour_17 rfl (lv_at hl 0 rfl) ?_
          refine lv_iload_n hx hb dX1_passHour_18 rfl (lv_at hl 2 rfl) ?_
          obtain ⟨r80, h81, hf⟩ := bd1E hf
          refine kO_virt hx hb hml hown hts hK hn hP (kX1_illsOf l D G q_t q_t_ills q_t_roomOf q_t_effects q_t_badFor q_t_likes q_t_sights t_there t_sat t_hour w48 w47 h81) cvX1_62 ⟨Nat.le_of_ble_eq_true rfl, Nat.le_of_ble_eq_true rfl⟩ [0, 1] rfl 0 rfl rfl rfl hl.1 rfl (Nat.le_of_ble_eq_true rfl) ⟨Nat.zero_le _, Nat.zero_le _⟩ dX1_passHour_19 ?_
          refine lv_istore_n (lv' := [(3, .int r80), (0, .ref q_t), (1, .int w46), (2, .int w47)]) hx hb dX1_passHour_22 rfl hl (by decide) rfl (fun ls hl => ?_)
          refine lv_aload_n hx hb dX1_passHour_23 rfl (lv_at hl 1 rfl) ?_
          refine lv_iload_n hx hb dX1_passHour_24 rfl (lv_at hl 3 rfl) ?_
          obtain ⟨o82, h83, hf⟩ := bd1E hf
          refine kW_virt0 hx hb hml hown hts hK hn hA hP hD hS (kX1_passHourOf l D G fu q_t q_t_ills q_t_roomOf q_t_effects q_t_badFor q_t_likes q_t_sights t_there t_sat t_hour w48 t_roomOf t_effects t_badFor w47 h83) cvX1_69 ⟨Nat.le_of_ble_eq_true rfl, Nat.le_of_ble_eq_true rfl⟩ [0, 1, 2, 3, 4] rfl rfl [true, true, true, true, true] rfl (w3 := [(q_t, .inr (1, [.int t_there, .int t_sat, .int t_hour, .ref q_t_ills, .ref q_t_roomOf, .ref q_t_effects, .ref q_t_badFor, .ref q_t_likes, .ref q_t_sights])), (q_t_ills, .inl (G 0, 18, .inl o82)), (q_t_roomOf, .inl (G 0, 6, .inl t_roomOf)), (q_t_effects, .inl (G 0, 12, .inl t_effects)), (q_t_badFor, .inl (G 0, 36, .inl t_badFor))]) [0, 1, 2, 3, 4] rfl rfl 0 rfl rfl rfl hl.1 rfl (Nat.le_of_ble_eq_true rfl) ⟨Nat.zero_le _, Nat.zero_le _⟩ dX1_passHour_25 (fun H locs hP hD hS => ?_)
          have hP : va_P D vwCl [(q_t, .inr (1, [.int t_there, .int t_sat, .int t_hour, .ref q_t_ills, .ref q_t_roomOf, .ref q_t_effects, .ref q_t_badFor, .ref q_t_likes, .ref q_t_sights])), (q_t_ills, .inl (G 0, 18, .inl o82)), (q_t_roomOf, .inl (G 0, 6, .inl t_roomOf)), (q_t_effects, .inl (G 0, 12, .inl t_effects)), (q_t_badFor, .inl (G 0, 36, .inl t_badFor))] H := hP
          have hD : va_D A [(q_t, .inr (1, [.int t_there, .int t_sat, .int t_hour, .ref q_t_ills, .ref q_t_roomOf, .ref q_t_effects, .ref q_t_badFor, .ref q_t_likes, .ref q_t_sights])), (q_t_ills, .inl (G 0, 18, .inl o82)), (q_t_roomOf, .inl (G 0, 6, .inl t_roomOf)), (q_t_effects, .inl (G 0, 12, .inl t_effects)), (q_t_badFor, .inl (G 0, 36, .inl t_badFor))] := hD
          refine lv_aload_n hx hb dX1_passHour_28 rfl (lv_at hl 1 rfl) ?_
          refine lv_iload_n hx hb dX1_passHour_29 rfl (lv_at hl 3 rfl) ?_
          obtain ⟨r84, h85, hf⟩ := bd1E hf
          refine kO_virt hx hb hml hown hts hK hn hP (kX1_illsOf l D G q_t q_t_ills q_t_roomOf q_t_effects q_t_badFor q_t_likes q_t_sights t_there t_sat t_hour o82 w47 h85) cvX1_62 ⟨Nat.le_of_ble_eq_true rfl, Nat.le_of_ble_eq_true rfl⟩ [0, 1] rfl 0 rfl rfl rfl hl.1 rfl (Nat.le_of_ble_eq_true rfl) ⟨Nat.zero_le _, Nat.zero_le _⟩ dX1_passHour_30 ?_
          refine lv_iload_n hx hb dX1_passHour_33 rfl (lv_at hl 0 rfl) ?_
          obtain ⟨j87, h91, hf⟩ := bd1E hf
          have E89 : ∀ (z88 : Int32), some z88 = some j87 → ∀ (H : Heap) (locs : List Loc), va_P D vwCl [(q_t, .inr (1, [.int t_there, .int t_sat, .int t_hour, .ref q_t_ills, .ref q_t_roomOf, .ref q_t_effects, .ref q_t_badFor, .ref q_t_likes, .ref q_t_sights])), (q_t_ills, .inl (G 0, 18, .inl o82)), (q_t_roomOf, .inl (G 0, 6, .inl t_roomOf)), (q_t_effects, .inl (G 0, 12, .inl t_effects)), (q_t_badFor, .inl (G 0, 36, .inl t_badFor))] H → va_D A [(q_t, .inr (1, [.int t_there, .int t_sat, .int t_hour, .ref q_t_ills, .ref q_t_roomOf, .ref q_t_effects, .ref q_t_badFor, .ref q_t_likes, .ref q_t_sights])), (q_t_ills, .inl (G 0, 18, .inl o82)), (q_t_roomOf, .inl (G 0, 6, .inl t_roomOf)), (q_t_effects, .inl (G 0, 12, .inl t_effects)), (q_t_badFor, .inl (G 0, 36, .inl t_badFor))] → va_S A s.heap H locs → ∀ ls : Array Slot, lv_has ls 4 [(0, .ref q_t), (2, .int w47)] → W p l e (kR 3 110) s m args below meth c H locs 0 0 Q (F0 m 42 ls [.int z88]) := by
            intro z88 hy; obtain rfl := sm1 hy
            intro H locs hP hD hS ls hl
            refine lv_istore_n (lv' := [(1, .int z88), (0, .ref q_t), (2, .int w47)]) hx hb dX1_passHour_42 rfl hl (by decide) rfl (fun ls hl => ?_)
            exact E78 _ _ hf H locs hP hD hS ls (lv_sub hl [1, 0, 2] rfl)
          have hf := h91
          refine lv_icmp_le (tgt := 41) hx hb dX1_passHour_34 (by decide) (fun c90 => ?_) (fun c90 => ?_)
          · have hf := ifp c90 hf
            refine lv_iload_n hx hb dX1_passHour_41 rfl (lv_at hl 2 rfl) ?_
            exact E89 _ hf H locs hP hD hS ls (lv_sub hl [1, 3] rfl)
          · have hf := ifn c90 hf
            refine lv_iload_n hx hb dX1_passHour_37 rfl (lv_at hl 3 rfl) ?_
            refine lv_goto (tgt := 42) hx hb dX1_passHour_38 (by decide) ?_
            exact E89 _ hf H locs hP hD hS ls (lv_sub hl [1, 3] rfl)
  exact L52 fu (-6 : Int32) (5 : Int32) t_ills h54 H locs hP hD hS ls (lv_sub hl [2, 1, 0] rfl)
set_option maxHeartbeats 4000000 in
set_option maxRecDepth 100000 in
theorem kX1_paysAhead (l : Launch) (D : va_G) (G : Nat → ClassId) (q_t q_t_ills q_t_roomOf q_t_effects q_t_badFor q_t_likes q_t_sights : Nat) (t_there : Int32) (t_sat : Int32) (t_hour : Int32) (t_ills : Nat → Int32) (v1 : Int32) (v2 : Int32) {r : Int32} (hf : fX1_paysAhead t_ills v1 v2 = some r) : rO l D G yX1_paysAhead cX1_paysAhead 3 (some .boolean) 3 103 [.ref q_t, .int v1, .int v2] [(q_t, .inr (1, [.int t_there, .int t_sat, .int t_hour, .ref q_t_ills, .ref q_t_roomOf, .ref q_t_effects, .ref q_t_badFor, .ref q_t_likes, .ref q_t_sights])), (q_t_ills, .inl (G 0, 18, .inl t_ills))] (some (.int r)) := by
  refine rO_of (by decide) (Nat.le_of_ble_eq_true rfl) ?_
  intro p e s m args below meth c Q hx hb hml hown hts hK hn hP RET ls hl
  have RT : ∀ (a0_ : Int32), some a0_ = some r → ∀ (pc : Nat) (ls : Array Slot) (ins : Instr), decode cX1_paysAhead pc = .ok (ins, 1) → rk (some .boolean) (some (.int a0_)) ins → W p l e (kR 3 103) s m args below meth c s.heap [] 0 0 Q (F0 m pc ls [.int a0_]) := by
    intro a0_ hy; obtain rfl := sm1 hy
    exact RET
  have hown : s.vm.findClass RX1 = some m.cls := hown
  have hl : lv_has ls 3 [(0, .ref q_t), (1, .int v1), (2, .int v2)] := hl
  clear RET
  rw [fX1_paysAhead] at hf
  refine lv_aload_n hx hb dX1_paysAhead_0 rfl (lv_at hl 0 rfl) ?_
  refine lv_iload_n hx hb dX1_paysAhead_1 rfl (lv_at hl 1 rfl) ?_
  obtain ⟨r1, h2, hf⟩ := bd1E hf
  refine kO_virt hx hb hml hown hts hK hn hP (kX1_illsOf l D G q_t q_t_ills q_t_roomOf q_t_effects q_t_badFor q_t_likes q_t_sights t_there t_sat t_hour t_ills v1 h2) cvX1_62 ⟨Nat.le_of_ble_eq_true rfl, Nat.le_of_ble_eq_true rfl⟩ [0, 1] rfl 0 rfl rfl rfl hl.1 rfl (Nat.le_of_ble_eq_true rfl) ⟨Nat.zero_le _, Nat.zero_le _⟩ dX1_paysAhead_2 ?_
  refine lv_aload_n hx hb dX1_paysAhead_5 rfl (lv_at hl 0 rfl) ?_
  refine lv_iload_n hx hb dX1_paysAhead_6 rfl (lv_at hl 2 rfl) ?_
  obtain ⟨r3, h4, hf⟩ := bd1E hf
  refine kO_virt hx hb hml hown hts hK hn hP (kX1_illsOf l D G q_t q_t_ills q_t_roomOf q_t_effects q_t_badFor q_t_likes q_t_sights t_there t_sat t_hour t_ills v2 h4) cvX1_62 ⟨Nat.le_of_ble_eq_true rfl, Nat.le_of_ble_eq_true rfl⟩ [0, 1] rfl 0 rfl rfl rfl hl.1 rfl (Nat.le_of_ble_eq_true rfl) ⟨Nat.zero_le _, Nat.zero_le _⟩ dX1_paysAhead_7 ?_
  refine lv_icmp_gt (tgt := 31) hx hb dX1_paysAhead_10 (by decide) (fun c5 => ?_) (fun c5 => ?_)
  · have hf := ifp c5 hf
    refine lv_iconst (v := (1 : Int32)) hx hb dX1_paysAhead_31 (by decide) ?_
    refine lv_goto (tgt := 36) hx hb dX1_paysAhead_32 (by decide) ?_
    exact RT _ hf _ _ _ dX1_paysAhead_36 (rkZ (Or.inr rfl))
  · have hf := ifn c5 hf
    refine lv_aload_n hx hb dX1_paysAhead_13 rfl (lv_at hl 0 rfl) ?_
    refine lv_iload_n hx hb dX1_paysAhead_14 rfl (lv_at hl 1 rfl) ?_
    obtain ⟨r6, h7, hf⟩ := bd1E hf
    refine kO_virt hx hb hml hown hts hK hn hP (kX1_illsOf l D G q_t q_t_ills q_t_roomOf q_t_effects q_t_badFor q_t_likes q_t_sights t_there t_sat t_hour t_ills v1 h7) cvX1_62 ⟨Nat.le_of_ble_eq_true rfl, Nat.le_of_ble_eq_true rfl⟩ [0, 1] rfl 0 rfl rfl rfl hl.1 rfl (Nat.le_of_ble_eq_true rfl) ⟨Nat.zero_le _, Nat.zero_le _⟩ dX1_paysAhead_15 ?_
    refine lv_aload_n hx hb dX1_paysAhead_18 rfl (lv_at hl 0 rfl) ?_
    refine lv_iload_n hx hb dX1_paysAhead_19 rfl (lv_at hl 2 rfl) ?_
    obtain ⟨r8, h9, hf⟩ := bd1E hf
    refine kO_virt hx hb hml hown hts hK hn hP (kX1_illsOf l D G q_t q_t_ills q_t_roomOf q_t_effects q_t_badFor q_t_likes q_t_sights t_there t_sat t_hour t_ills v2 h9) cvX1_62 ⟨Nat.le_of_ble_eq_true rfl, Nat.le_of_ble_eq_true rfl⟩ [0, 1] rfl 0 rfl rfl rfl hl.1 rfl (Nat.le_of_ble_eq_true rfl) ⟨Nat.zero_le _, Nat.zero_le _⟩ dX1_paysAhead_20 ?_
    refine lv_icmp_ne (tgt := 35) hx hb dX1_paysAhead_23 (by decide) (fun c10 => ?_) (fun c10 => ?_)
    · have hf := ifn c10 hf
      refine lv_iconst (v := (0 : Int32)) hx hb dX1_paysAhead_35 (by decide) ?_
      exact RT _ hf _ _ _ dX1_paysAhead_36 (rkZ (Or.inl rfl))
    · have hf := ifp c10 hf
      refine lv_iload_n hx hb dX1_paysAhead_26 rfl (lv_at hl 1 rfl) ?_
      refine lv_iload_n hx hb dX1_paysAhead_27 rfl (lv_at hl 2 rfl) ?_
      refine lv_icmp_ge (tgt := 35) hx hb dX1_paysAhead_28 (by decide) (fun c11 => ?_) (fun c11 => ?_)
      · have hf := ifp c11 hf
        refine lv_iconst (v := (0 : Int32)) hx hb dX1_paysAhead_35 (by decide) ?_
        exact RT _ hf _ _ _ dX1_paysAhead_36 (rkZ (Or.inl rfl))
      · have hf := ifn c11 hf
        refine lv_iconst (v := (1 : Int32)) hx hb dX1_paysAhead_31 (by decide) ?_
        refine lv_goto (tgt := 36) hx hb dX1_paysAhead_32 (by decide) ?_
        exact RT _ hf _ _ _ dX1_paysAhead_36 (rkZ (Or.inr rfl))
set_option maxHeartbeats 4000000 in
set_option maxRecDepth 100000 in
theorem kX1_perform (l : Launch) (D : va_G) (G : Nat → ClassId) (q_t q_t_ills q_t_roomOf q_t_effects q_t_badFor q_t_likes q_t_sights : Nat) (t_there : Int32) (t_sat : Int32) (t_hour : Int32) (t_roomOf : Nat → Int32) (v1 : Int32) (v2 : Int32) {o_t_sat : Int32} {o_t_roomOf : Nat → Int32} (hf : fX1_perform t_sat t_roomOf v1 v2 = some (o_t_sat, o_t_roomOf)) : rW l D G yX1_perform cX1_perform 3 none 1 60 [.ref q_t, .int v1, .int v2] [(q_t, .inr (1, [.int t_there, .int t_sat, .int t_hour, .ref q_t_ills, .ref q_t_roomOf, .ref q_t_effects, .ref q_t_badFor, .ref q_t_likes, .ref q_t_sights])), (q_t_roomOf, .inl (G 0, 6, .inl t_roomOf))] [(q_t, .inr (1, [.int t_there, .int o_t_sat, .int t_hour, .ref q_t_ills, .ref q_t_roomOf, .ref q_t_effects, .ref q_t_badFor, .ref q_t_likes, .ref q_t_sights])), (q_t_roomOf, .inl (G 0, 6, .inl o_t_roomOf))] none := by
  refine rW_of (by decide) (Nat.le_of_ble_eq_true rfl) ?_
  intro p e s m args below meth c Q A hx hb hml hown hts hK hn hA RET H locs hP hD hS ls hl
  have RT : ∀ (a0_ : Int32) (a1_ : Nat → Int32), some (a0_, a1_) = some (o_t_sat, o_t_roomOf) → ∀ (pc : Nat) (ls : Array Slot) (ins : Instr) (H : Heap) (locs : List Loc), decode cX1_perform pc = .ok (ins, 1) → rk none none ins → va_P D vwCl [(q_t, .inr (1, [.int t_there, .int a0_, .int t_hour, .ref q_t_ills, .ref q_t_roomOf, .ref q_t_effects, .ref q_t_badFor, .ref q_t_likes, .ref q_t_sights])), (q_t_roomOf, .inl (G 0, 6, .inl a1_))] H → va_D A [(q_t, .inr (1, [.int t_there, .int a0_, .int t_hour, .ref q_t_ills, .ref q_t_roomOf, .ref q_t_effects, .ref q_t_badFor, .ref q_t_likes, .ref q_t_sights])), (q_t_roomOf, .inl (G 0, 6, .inl a1_))] → va_S A s.heap H locs → W p l e (kR 1 60) s m args below meth c H locs 0 0 Q (F0 m pc ls []) := by
    intro a0_ a1_ hy; obtain ⟨rfl, rfl⟩ := sm2 hy
    exact RET
  have hown : s.vm.findClass RX1 = some m.cls := hown
  have hl : lv_has ls 3 [(0, .ref q_t), (1, .int v1), (2, .int v2)] := hl
  clear RET
  rw [fX1_perform] at hf
  refine lv_iload_n hx hb dX1_perform_0 rfl (lv_at hl 2 rfl) ?_
  refine lv_iconst (v := (4 : Int32)) hx hb dX1_perform_1 (by decide) ?_
  refine lv_icmp_ne (tgt := 20) hx hb dX1_perform_2 (by decide) (fun c1 => ?_) (fun c1 => ?_)
  · have hf := ifn c1 hf
    refine lv_aload_n hx hb dX1_perform_20 rfl (lv_at hl 0 rfl) ?_
    refine va_get (D := D) (ci := 1) (v := .ref q_t_roomOf) (C := RX1) (T := TX1) (N := 9) hx hb hts inX1 hown hK hP 0 rfl rfl 4 (by decide) (hts _ lfX1_15) (fun _ h9 => h9) rfl dX1_perform_21 ?_
    refine lv_iload_n hx hb dX1_perform_24 rfl (lv_at hl 1 rfl) ?_
    refine lv_iload_n hx hb dX1_perform_25 rfl (lv_at hl 2 rfl) ?_
    obtain ⟨g2, eg2, ig2, hf⟩ := stIE hf
    refine k_iast hx hb hK hP hD hS 1 0 rfl rfl ig2 eg2 dX1_perform_26 (fun H locs hP hD hS => ?_)
    have hP : va_P D vwCl [(q_t, .inr (1, [.int t_there, .int t_sat, .int t_hour, .ref q_t_ills, .ref q_t_roomOf, .ref q_t_effects, .ref q_t_badFor, .ref q_t_likes, .ref q_t_sights])), (q_t_roomOf, .inl (G 0, 6, .inl g2))] H := hP
    have hD : va_D A [(q_t, .inr (1, [.int t_there, .int t_sat, .int t_hour, .ref q_t_ills, .ref q_t_roomOf, .ref q_t_effects, .ref q_t_badFor, .ref q_t_likes, .ref q_t_sights])), (q_t_roomOf, .inl (G 0, 6, .inl g2))] := hD
    exact RT _ _ hf _ _ _ H locs dX1_perform_27 rkV hP hD hS
  · have hf := ifp c1 hf
    refine lv_aload_n hx hb dX1_perform_5 rfl (lv_at hl 0 rfl) ?_
    refine lv_dup hx hb dX1_perform_6 rfl ?_
    refine va_get (D := D) (ci := 1) (v := .int t_sat) (C := RX1) (T := TX1) (N := 9) hx hb hts inX1 hown hK hP 0 rfl rfl 1 (by decide) (hts _ lfX1_38) (fun _ h9 => h9) rfl dX1_perform_7 ?_
    refine lv_iconst (v := (1 : Int32)) hx hb dX1_perform_10 (by decide) ?_
    refine lv_iload_n hx hb dX1_perform_11 rfl (lv_at hl 1 rfl) ?_
    refine lv_ishl hx hb dX1_perform_12 ?_
    refine lv_ior hx hb dX1_perform_13 ?_
    refine lv_topi (fun y3 ey3 => ?_)
    have hf := nmeU ey3 hf
    refine va_put (D := D) (ci := 1) (v := .int y3) (ty := .int) (C := RX1) (T := TX1) (N := 9) hx hb hts inX1 tyX1 tyX1_ok nmX1 hown hK hP hD hS 0 rfl rfl 1 (by decide) (hts _ lfX1_38) (fun _ h9 => h9) rfl (tyX1_ok 1 (by decide)) rfl rfl (Nat.le_of_ble_eq_true rfl) dX1_perform_14 (fun H locs hP hD hS => ?_)
    have hP : va_P D vwCl [(q_t, .inr (1, [.int t_there, .int y3, .int t_hour, .ref q_t_ills, .ref q_t_roomOf, .ref q_t_effects, .ref q_t_badFor, .ref q_t_likes, .ref q_t_sights])), (q_t_roomOf, .inl (G 0, 6, .inl t_roomOf))] H := hP
    have hD : va_D A [(q_t, .inr (1, [.int t_there, .int y3, .int t_hour, .ref q_t_ills, .ref q_t_roomOf, .ref q_t_effects, .ref q_t_badFor, .ref q_t_likes, .ref q_t_sights])), (q_t_roomOf, .inl (G 0, 6, .inl t_roomOf))] := hD
    refine lv_goto (tgt := 27) hx hb dX1_perform_17 (by decide) ?_
    exact RT _ _ hf _ _ _ H locs dX1_perform_27 rkV hP hD hS
set_option maxHeartbeats 4000000 in
set_option maxRecDepth 100000 in
theorem kX1_reasonAgainst (l : Launch) (D : va_G) (G : Nat → ClassId) (q_t q_t_ills q_t_roomOf q_t_effects q_t_badFor q_t_likes q_t_sights : Nat) (t_there : Int32) (t_sat : Int32) (t_hour : Int32) (t_roomOf : Nat → Int32) (v1 : Int32) (v2 : Int32) {r : Int32} (hf : fX1_reasonAgainst t_there t_sat t_hour t_roomOf v1 v2 = some r) : rO l D G yX1_reasonAgainst cX1_reasonAgainst 3 (some .int) 2 81 [.ref q_t, .int v1, .int v2] [(q_t, .inr (1, [.int t_there, .int t_sat, .int t_hour, .ref q_t_ills, .ref q_t_roomOf, .ref q_t_effects, .ref q_t_badFor, .ref q_t_likes, .ref q_t_sights])), (q_t_roomOf, .inl (G 0, 6, .inl t_roomOf))] (some (.int r)) := by
  refine rO_of (by decide) (Nat.le_of_ble_eq_true rfl) ?_
  intro p e s m args below meth c Q hx hb hml hown hts hK hn hP RET ls hl
  have RT : ∀ (a0_ : Int32), some a0_ = some r → ∀ (pc : Nat) (ls : Array Slot) (ins : Instr), decode cX1_reasonAgainst pc = .ok (ins, 1) → rk (some .int) (some (.int a0_)) ins → W p l e (kR 2 81) s m args below meth c s.heap [] 0 0 Q (F0 m pc ls [.int a0_]) := by
    intro a0_ hy; obtain rfl := sm1 hy
    exact RET
  have hown : s.vm.findClass RX1 = some m.cls := hown
  have hl : lv_has ls 3 [(0, .ref q_t), (1, .int v1), (2, .int v2)] := hl
  clear RET
  rw [fX1_reasonAgainst] at hf
  refine lv_iload_n hx hb dX1_reasonAgainst_0 rfl (lv_at hl 2 rfl) ?_
  refine lv_iconst (v := (5 : Int32)) hx hb dX1_reasonAgainst_1 (by decide) ?_
  refine lv_icmp_ne (tgt := 20) hx hb dX1_reasonAgainst_2 (by decide) (fun c1 => ?_) (fun c1 => ?_)
  · have hf := ifn c1 hf
    refine lv_aload_n hx hb dX1_reasonAgainst_20 rfl (lv_at hl 0 rfl) ?_
    refine lv_iload_n hx hb dX1_reasonAgainst_21 rfl (lv_at hl 1 rfl) ?_
    obtain ⟨r2, h3, hf⟩ := bd1E hf
    refine kO_virt hx hb hml hown hts hK hn hP (kX1_isThere l D G q_t q_t_ills q_t_roomOf q_t_effects q_t_badFor q_t_likes q_t_sights t_there t_sat t_hour v1 h3) cvX1_58 ⟨Nat.le_of_ble_eq_true rfl, Nat.le_of_ble_eq_true rfl⟩ [0] rfl 0 rfl rfl rfl hl.1 rfl (Nat.le_of_ble_eq_true rfl) ⟨Nat.zero_le _, Nat.zero_le _⟩ dX1_reasonAgainst_22 ?_
    refine lv_if_ne (tgt := 30) hx hb dX1_reasonAgainst_25 (by decide) (fun c4 => ?_) (fun c4 => ?_)
    · have hf := ifn c4 hf
      refine lv_iload_n hx hb dX1_reasonAgainst_30 rfl (lv_at hl 2 rfl) ?_
      refine lv_iconst (v := (4 : Int32)) hx hb dX1_reasonAgainst_31 (by decide) ?_
      refine lv_icmp_eq (tgt := 47) hx hb dX1_reasonAgainst_32 (by decide) (fun c5 => ?_) (fun c5 => ?_)
      · have hf := ifp c5 hf
        refine lv_aload_n hx hb dX1_reasonAgainst_47 rfl (lv_at hl 0 rfl) ?_
        refine lv_iload_n hx hb dX1_reasonAgainst_48 rfl (lv_at hl 1 rfl) ?_
        obtain ⟨r6, h7, hf⟩ := bd1E hf
        refine kO_virt hx hb hml hown hts hK hn hP (kX1_isSatIn l D G q_t q_t_ills q_t_roomOf q_t_effects q_t_badFor q_t_likes q_t_sights t_there t_sat t_hour v1 h7) cvX1_66 ⟨Nat.le_of_ble_eq_true rfl, Nat.le_of_ble_eq_true rfl⟩ [0] rfl 0 rfl rfl rfl hl.1 rfl (Nat.le_of_ble_eq_true rfl) ⟨Nat.zero_le _, Nat.zero_le _⟩ dX1_reasonAgainst_49 ?_
        refine lv_if_eq (tgt := 59) hx hb dX1_reasonAgainst_52 (by decide) (fun c8 => ?_) (fun c8 => ?_)
        · have hf := ifp c8 hf
          refine lv_iconst (v := (0 : Int32)) hx hb dX1_reasonAgainst_59 (by decide) ?_
          exact RT _ hf _ _ _ dX1_reasonAgainst_60 (rkI _)
        · have hf := ifn c8 hf
          refine lv_iconst (v := (3 : Int32)) hx hb dX1_reasonAgainst_55 (by decide) ?_
          refine lv_goto (tgt := 60) hx hb dX1_reasonAgainst_56 (by decide) ?_
          exact RT _ hf _ _ _ dX1_reasonAgainst_60 (rkI _)
      · have hf := ifn c5 hf
        refine lv_aload_n hx hb dX1_reasonAgainst_35 rfl (lv_at hl 0 rfl) ?_
        refine va_get (D := D) (ci := 1) (v := .ref q_t_roomOf) (C := RX1) (T := TX1) (N := 9) hx hb hts inX1 hown hK hP 0 rfl rfl 4 (by decide) (hts _ lfX1_15) (fun _ h9 => h9) rfl dX1_reasonAgainst_36 ?_
        refine lv_iload_n hx hb dX1_reasonAgainst_39 rfl (lv_at hl 1 rfl) ?_
        obtain ⟨x9, ex9, ix9, hf⟩ := ldIE hf
        refine k_iald hx hb hK hP 1 0 rfl rfl ix9 ex9 dX1_reasonAgainst_40 ?_
        refine lv_iload_n hx hb dX1_reasonAgainst_41 rfl (lv_at hl 2 rfl) ?_
        refine lv_icmp_ne (tgt := 47) hx hb dX1_reasonAgainst_42 (by decide) (fun c10 => ?_) (fun c10 => ?_)
        · have hf := ifn c10 hf
          refine lv_aload_n hx hb dX1_reasonAgainst_47 rfl (lv_at hl 0 rfl) ?_
          refine lv_iload_n hx hb dX1_reasonAgainst_48 rfl (lv_at hl 1 rfl) ?_
          obtain ⟨r11, h12, hf⟩ := bd1E hf
          refine kO_virt hx hb hml hown hts hK hn hP (kX1_isSatIn l D G q_t q_t_ills q_t_roomOf q_t_effects q_t_badFor q_t_likes q_t_sights t_there t_sat t_hour v1 h12) cvX1_66 ⟨Nat.le_of_ble_eq_true rfl, Nat.le_of_ble_eq_true rfl⟩ [0] rfl 0 rfl rfl rfl hl.1 rfl (Nat.le_of_ble_eq_true rfl) ⟨Nat.zero_le _, Nat.zero_le _⟩ dX1_reasonAgainst_49 ?_
          refine lv_if_eq (tgt := 59) hx hb dX1_reasonAgainst_52 (by decide) (fun c13 => ?_) (fun c13 => ?_)
          · have hf := ifp c13 hf
            refine lv_iconst (v := (0 : Int32)) hx hb dX1_reasonAgainst_59 (by decide) ?_
            exact RT _ hf _ _ _ dX1_reasonAgainst_60 (rkI _)
          · have hf := ifn c13 hf
            refine lv_iconst (v := (3 : Int32)) hx hb dX1_reasonAgainst_55 (by decide) ?_
            refine lv_goto (tgt := 60) hx hb dX1_reasonAgainst_56 (by decide) ?_
            exact RT _ hf _ _ _ dX1_reasonAgainst_60 (rkI _)
        · have hf := ifp c10 hf
          refine lv_iconst (v := (2 : Int32)) hx hb dX1_reasonAgainst_45 (by decide) ?_
          exact RT _ hf _ _ _ dX1_reasonAgainst_46 (rkI _)
    · have hf := ifp c4 hf
      refine lv_iconst (v := (1 : Int32)) hx hb dX1_reasonAgainst_28 (by decide) ?_
      exact RT _ hf _ _ _ dX1_reasonAgainst_29 (rkI _)
  · have hf := ifp c1 hf
    refine lv_aload_n hx hb dX1_reasonAgainst_5 rfl (lv_at hl 0 rfl) ?_
    refine va_get (D := D) (ci := 1) (v := .int t_hour) (C := RX1) (T := TX1) (N := 9) hx hb hts inX1 hown hK hP 0 rfl rfl 2 (by decide) (hts _ lfX1_41) (fun _ h9 => h9) rfl dX1_reasonAgainst_6 ?_
    refine lv_bipush (v := (99 : Int32)) hx hb dX1_reasonAgainst_9 (by decide) ?_
    refine lv_icmp_lt (tgt := 18) hx hb dX1_reasonAgainst_11 (by decide) (fun c14 => ?_) (fun c14 => ?_)
    · have hf := ifp c14 hf
      refine lv_iconst (v := (0 : Int32)) hx hb dX1_reasonAgainst_18 (by decide) ?_
      exact RT _ hf _ _ _ dX1_reasonAgainst_19 (rkI _)
    · have hf := ifn c14 hf
      refine lv_iconst (v := (4 : Int32)) hx hb dX1_reasonAgainst_14 (by decide) ?_
      refine lv_goto (tgt := 19) hx hb dX1_reasonAgainst_15 (by decide) ?_
      exact RT _ hf _ _ _ dX1_reasonAgainst_19 (rkI _)
set_option maxHeartbeats 4000000 in
set_option maxRecDepth 100000 in
theorem kX1_send (l : Launch) (D : va_G) (G : Nat → ClassId) (q_t q_t_ills q_t_roomOf q_t_effects q_t_badFor q_t_likes q_t_sights : Nat) (t_there : Int32) (t_sat : Int32) (t_hour : Int32) (v1 : Int32) {o_t_there : Int32} {o_t_sat : Int32} (hf : fX1_send t_there t_sat v1 = some (o_t_there, o_t_sat)) : rW l D G yX1_send cX1_send 2 none 1 60 [.ref q_t, .int v1] [(q_t, .inr (1, [.int t_there, .int t_sat, .int t_hour, .ref q_t_ills, .ref q_t_roomOf, .ref q_t_effects, .ref q_t_badFor, .ref q_t_likes, .ref q_t_sights]))] [(q_t, .inr (1, [.int o_t_there, .int o_t_sat, .int t_hour, .ref q_t_ills, .ref q_t_roomOf, .ref q_t_effects, .ref q_t_badFor, .ref q_t_likes, .ref q_t_sights]))] none := by
  refine rW_of (by decide) (Nat.le_of_ble_eq_true rfl) ?_
  intro p e s m args below meth c Q A hx hb hml hown hts hK hn hA RET H locs hP hD hS ls hl
  have RT : ∀ (a0_ : Int32) (a1_ : Int32), some (a0_, a1_) = some (o_t_there, o_t_sat) → ∀ (pc : Nat) (ls : Array Slot) (ins : Instr) (H : Heap) (locs : List Loc), decode cX1_send pc = .ok (ins, 1) → rk none none ins → va_P D vwCl [(q_t, .inr (1, [.int a0_, .int a1_, .int t_hour, .ref q_t_ills, .ref q_t_roomOf, .ref q_t_effects, .ref q_t_badFor, .ref q_t_likes, .ref q_t_sights]))] H → va_D A [(q_t, .inr (1, [.int a0_, .int a1_, .int t_hour, .ref q_t_ills, .ref q_t_roomOf, .ref q_t_effects, .ref q_t_badFor, .ref q_t_likes, .ref q_t_sights]))] → va_S A s.heap H locs → W p l e (kR 1 60) s m args below meth c H locs 0 0 Q (F0 m pc ls []) := by
    intro a0_ a1_ hy; obtain ⟨rfl, rfl⟩ := sm2 hy
    exact RET
  have hown : s.vm.findClass RX1 = some m.cls := hown
  have hl : lv_has ls 2 [(0, .ref q_t), (1, .int v1)] := hl
  clear RET
  rw [fX1_send] at hf
  refine lv_aload_n hx hb dX1_send_0 rfl (lv_at hl 0 rfl) ?_
  refine lv_dup hx hb dX1_send_1 rfl ?_
  refine va_get (D := D) (ci := 1) (v := .int t_there) (C := RX1) (T := TX1) (N := 9) hx hb hts inX1 hown hK hP 0 rfl rfl 0 (by decide) (hts _ lfX1_34) (fun _ h9 => h9) rfl dX1_send_2 ?_
  refine lv_iconst (v := (1 : Int32)) hx hb dX1_send_5 (by decide) ?_
  refine lv_iload_n hx hb dX1_send_6 rfl (lv_at hl 1 rfl) ?_
  refine lv_ishl hx hb dX1_send_7 ?_
  refine lv_iconst (v := (-1 : Int32)) hx hb dX1_send_8 (by decide) ?_
  refine lv_ixor hx hb dX1_send_9 ?_
  refine lv_iand hx hb dX1_send_10 ?_
  refine lv_topi (fun y1 ey1 => ?_)
  have hf := nmeU ey1 hf
  refine va_put (D := D) (ci := 1) (v := .int y1) (ty := .int) (C := RX1) (T := TX1) (N := 9) hx hb hts inX1 tyX1 tyX1_ok nmX1 hown hK hP hD hS 0 rfl rfl 0 (by decide) (hts _ lfX1_34) (fun _ h9 => h9) rfl (tyX1_ok 0 (by decide)) rfl rfl (Nat.le_of_ble_eq_true rfl) dX1_send_11 (fun H locs hP hD hS => ?_)
  have hP : va_P D vwCl [(q_t, .inr (1, [.int y1, .int t_sat, .int t_hour, .ref q_t_ills, .ref q_t_roomOf, .ref q_t_effects, .ref q_t_badFor, .ref q_t_likes, .ref q_t_sights]))] H := hP
  have hD : va_D A [(q_t, .inr (1, [.int y1, .int t_sat, .int t_hour, .ref q_t_ills, .ref q_t_roomOf, .ref q_t_effects, .ref q_t_badFor, .ref q_t_likes, .ref q_t_sights]))] := hD
  refine lv_aload_n hx hb dX1_send_14 rfl (lv_at hl 0 rfl) ?_
  refine lv_dup hx hb dX1_send_15 rfl ?_
  refine va_get (D := D) (ci := 1) (v := .int t_sat) (C := RX1) (T := TX1) (N := 9) hx hb hts inX1 hown hK hP 0 rfl rfl 1 (by decide) (hts _ lfX1_38) (fun _ h9 => h9) rfl dX1_send_16 ?_
  refine lv_iconst (v := (1 : Int32)) hx hb dX1_send_19 (by decide) ?_
  refine lv_iload_n hx hb dX1_send_20 rfl (lv_at hl 1 rfl) ?_
  refine lv_ishl hx hb dX1_send_21 ?_
  refine lv_iconst (v := (-1 : Int32)) hx hb dX1_send_22 (by decide) ?_
  refine lv_ixor hx hb dX1_send_23 ?_
  refine lv_iand hx hb dX1_send_24 ?_
  refine lv_topi (fun y2 ey2 => ?_)
  have hf := nmeU ey2 hf
  refine va_put (D := D) (ci := 1) (v := .int y2) (ty := .int) (C := RX1) (T := TX1) (N := 9) hx hb hts inX1 tyX1 tyX1_ok nmX1 hown hK hP hD hS 0 rfl rfl 1 (by decide) (hts _ lfX1_38) (fun _ h9 => h9) rfl (tyX1_ok 1 (by decide)) rfl rfl (Nat.le_of_ble_eq_true rfl) dX1_send_25 (fun H locs hP hD hS => ?_)
  have hP : va_P D vwCl [(q_t, .inr (1, [.int y1, .int y2, .int t_hour, .ref q_t_ills, .ref q_t_roomOf, .ref q_t_effects, .ref q_t_badFor, .ref q_t_likes, .ref q_t_sights]))] H := hP
  have hD : va_D A [(q_t, .inr (1, [.int y1, .int y2, .int t_hour, .ref q_t_ills, .ref q_t_roomOf, .ref q_t_effects, .ref q_t_badFor, .ref q_t_likes, .ref q_t_sights]))] := hD
  exact RT _ _ hf _ _ _ H locs dX1_send_28 rkV hP hD hS
set_option maxHeartbeats 4000000 in
set_option maxRecDepth 100000 in
theorem kX1_shareOf (l : Launch) (D : va_G) (G : Nat → ClassId) (fu : Nat) (q_t q_t_ills q_t_roomOf q_t_effects q_t_badFor q_t_likes q_t_sights : Nat) (t_there : Int32) (t_sat : Int32) (t_hour : Int32) (t_ills : Nat → Int32) (v1 : Int32) (v2 : Int32) {r : Int32} (hf : fX1_shareOf fu t_there t_ills v1 v2 = some r) : rO l D G yX1_shareOf cX1_shareOf 7 (some .int) 4 125 [.ref q_t, .int v1, .int v2] [(q_t, .inr (1, [.int t_there, .int t_sat, .int t_hour, .ref q_t_ills, .ref q_t_roomOf, .ref q_t_effects, .ref q_t_badFor, .ref q_t_likes, .ref q_t_sights])), (q_t_ills, .inl (G 0, 18, .inl t_ills))] (some (.int r)) := by
  refine rO_of (by decide) (Nat.le_of_ble_eq_true rfl) ?_
  intro p e s m args below meth c Q hx hb hml hown hts hK hn hP RET ls hl
  have RT : ∀ (a0_ : Int32), some a0_ = some r → ∀ (pc : Nat) (ls : Array Slot) (ins : Instr), decode cX1_shareOf pc = .ok (ins, 1) → rk (some .int) (some (.int a0_)) ins → W p l e (kR 4 125) s m args below meth c s.heap [] 0 0 Q (F0 m pc ls [.int a0_]) := by
    intro a0_ hy; obtain rfl := sm1 hy
    exact RET
  have hown : s.vm.findClass RX1 = some m.cls := hown
  have hl : lv_has ls 7 [(0, .ref q_t), (1, .int v1), (2, .int v2)] := hl
  clear RET
  rw [fX1_shareOf] at hf
  refine lv_aload_n hx hb dX1_shareOf_0 rfl (lv_at hl 0 rfl) ?_
  obtain ⟨r1, h2, hf⟩ := bd1E hf
  refine kO_virt hx hb hml hown hts hK hn hP (kX1_illsOfAll l D G fu q_t q_t_ills q_t_roomOf q_t_effects q_t_badFor q_t_likes q_t_sights t_there t_sat t_hour t_ills h2) cvX1_95 ⟨Nat.le_of_ble_eq_true rfl, Nat.le_of_ble_eq_true rfl⟩ [0, 1] rfl 0 rfl rfl rfl hl.1 rfl (Nat.le_of_ble_eq_true rfl) ⟨Nat.zero_le _, Nat.zero_le _⟩ dX1_shareOf_1 ?_
  refine lv_aload_n hx hb dX1_shareOf_4 rfl (lv_at hl 0 rfl) ?_
  refine va_get (D := D) (ci := 1) (v := .int t_there) (C := RX1) (T := TX1) (N := 9) hx hb hts inX1 hown hK hP 0 rfl rfl 0 (by decide) (hts _ lfX1_34) (fun _ h9 => h9) rfl dX1_shareOf_5 ?_
  obtain ⟨r3, h4, hf⟩ := bd1E hf
  refine kO_stat hx hb hml hown hts hK hn hP (kJ6_bitCount_0f7a4 l D G t_there h4) csX1_99 ⟨Nat.le_of_ble_eq_true rfl, Nat.le_of_ble_eq_true rfl⟩ [] rfl rfl hl.1 rfl (Nat.le_of_ble_eq_true rfl) ⟨Nat.zero_le _, Nat.zero_le _⟩ dX1_shareOf_8 ?_
  refine lv_iadd hx hb dX1_shareOf_11 ?_
  refine lv_topi (fun y5 ey5 => ?_)
  have hf := nmeU ey5 hf
  refine lv_istore_n (lv' := [(3, .int y5), (0, .ref q_t), (1, .int v1), (2, .int v2)]) hx hb dX1_shareOf_12 rfl hl (by decide) rfl (fun ls hl => ?_)
  refine lv_iload_n hx hb dX1_shareOf_13 rfl (lv_at hl 2 rfl) ?_
  refine lv_istore (lv' := [(4, .int v1), (3, .int y5), (0, .ref q_t), (1, .int v1), (2, .int v2)]) hx hb dX1_shareOf_14 hl (by decide) rfl (fun ls hl => ?_)
  refine lv_iconst (v := (0 : Int32)) hx hb dX1_shareOf_16 (by decide) ?_
  refine lv_istore (lv' := [(5, .int (0 : Int32)), (4, .int v1), (3, .int y5), (0, .ref q_t), (1, .int v1), (2, .int v2)]) hx hb dX1_shareOf_17 hl (by decide) rfl (fun ls hl => ?_)
  refine lv_iconst (v := (0 : Int32)) hx hb dX1_shareOf_19 (by decide) ?_
  refine lv_istore (lv' := [(6, .int (0 : Int32)), (5, .int (0 : Int32)), (4, .int v1), (3, .int y5), (0, .ref q_t), (1, .int v1), (2, .int v2)]) hx hb dX1_shareOf_20 hl (by decide) rfl (fun ls hl => ?_)
  obtain ⟨u59, u60, h64, hf⟩ := bd2E hf
  have E61 : ∀ (z107 : Int32) (z108 : Int32), some (z107, z108) = some (u59, u60) → ∀ ls : Array Slot, lv_has ls 7 [(0, .ref q_t), (1, .int v1), (2, .int v2), (3, .int y5), (4, .int z107), (5, .int z108)] → W p l e (kR 4 125) s m args below meth c s.heap [] 0 0 Q (F0 m 82 ls []) := by
    intro z107 z108 hy; obtain ⟨rfl, rfl⟩ := sm2 hy
    intro ls hl
    refine lv_iload_n hx hb dX1_shareOf_82 rfl (lv_at hl 1 rfl) ?_
    refine lv_aload_n hx hb dX1_shareOf_83 rfl (lv_at hl 0 rfl) ?_
    refine lv_iload_n hx hb dX1_shareOf_84 rfl (lv_at hl 2 rfl) ?_
    obtain ⟨r109, h110, hf⟩ := bd1E hf
    refine kO_virt hx hb hml hown hts hK hn hP (kX1_illsOf l D G q_t q_t_ills q_t_roomOf q_t_effects q_t_badFor q_t_likes q_t_sights t_there t_sat t_hour t_ills v2 h110) cvX1_62 ⟨Nat.le_of_ble_eq_true rfl, Nat.le_of_ble_eq_true rfl⟩ [0, 1] rfl 0 rfl rfl rfl hl.1 rfl (Nat.le_of_ble_eq_true rfl) ⟨Nat.zero_le _, Nat.zero_le _⟩ dX1_shareOf_85 ?_
    refine lv_iconst (v := (1 : Int32)) hx hb dX1_shareOf_88 (by decide) ?_
    refine lv_iadd hx hb dX1_shareOf_89 ?_
    refine lv_iload_n hx hb dX1_shareOf_90 rfl (lv_at hl 3 rfl) ?_
    obtain ⟨r111, h112, hf⟩ := bd1E hf
    refine kO_stat hx hb hml hown hts hK hn hP (kX1_cutShare l D G v1 (r109 + (1 : Int32)) y5 h112) csX1_104 ⟨Nat.le_of_ble_eq_true rfl, Nat.le_of_ble_eq_true rfl⟩ [] rfl rfl hl.1 rfl (Nat.le_of_ble_eq_true rfl) ⟨Nat.zero_le _, Nat.zero_le _⟩ dX1_shareOf_91 ?_
    refine lv_iload hx hb dX1_shareOf_94 (lv_at hl 5 rfl) ?_
    refine lv_iload hx hb dX1_shareOf_96 (lv_at hl 4 rfl) ?_
    obtain ⟨j114, h118, hf⟩ := bd1E hf
    have E116 : ∀ (z115 : Int32), some z115 = some j114 → ∀ ls : Array Slot, lv_has ls 7 [] → W p l e (kR 4 125) s m args below meth c s.heap [] 0 0 Q (F0 m 106 ls [.int z115, .int r111]) := by
      intro z115 hy; obtain rfl := sm1 hy
      intro ls hl
      refine lv_iadd hx hb dX1_shareOf_106 ?_
      exact RT _ hf _ _ _ dX1_shareOf_107 (rkI _)
    have hf := h118
    refine lv_icmp_ge (tgt := 105) hx hb dX1_shareOf_98 (by decide) (fun c117 => ?_) (fun c117 => ?_)
    · have hf := ifp c117 hf
      refine lv_iconst (v := (0 : Int32)) hx hb dX1_shareOf_105 (by decide) ?_
      exact E116 _ hf ls (lv_sub hl [] rfl)
    · have hf := ifn c117 hf
      refine lv_iconst (v := (1 : Int32)) hx hb dX1_shareOf_101 (by decide) ?_
      refine lv_goto (tgt := 106) hx hb dX1_shareOf_102 (by decide) ?_
      exact E116 _ hf ls (lv_sub hl [] rfl)
  have L62 : ∀ (k : Nat) (w56 : Int32) (w57 : Int32) (w58 : Int32), fX1_shareOf_22 t_there t_ills v1 y5 v2 k w56 w57 w58 = some (u59, u60) → ∀ ls : Array Slot, lv_has ls 7 [(0, .ref q_t), (1, .int v1), (2, .int v2), (3, .int y5), (4, .int w56), (5, .int w57), (6, .int w58)] → W p l e (kR 4 125) s m args below meth c s.heap [] 0 0 Q (F0 m 22 ls []) := by
    intro k; induction k with
    | zero => intro w56 w57 w58 hf; exact nosome hf
    | succ k ih =>
      intro w56 w57 w58 hf; rw [fX1_shareOf_22] at hf
      intro ls hl
      refine lv_iload hx hb dX1_shareOf_22 (lv_at hl 6 rfl) ?_
      refine lv_bipush (v := (6 : Int32)) hx hb dX1_shareOf_24 (by decide) ?_
      refine lv_icmp_ge (tgt := 82) hx hb dX1_shareOf_26 (by decide) (fun c67 => ?_) (fun c67 => ?_)
      · have hf := ifp c67 hf
        exact E61 _ _ hf ls (lv_sub hl [0, 1, 2, 3, 4, 5] rfl)
      · have hf := ifn c67 hf
        refine lv_aload_n hx hb dX1_shareOf_29 rfl (lv_at hl 0 rfl) ?_
        refine lv_iload hx hb dX1_shareOf_30 (lv_at hl 6 rfl) ?_
        obtain ⟨r68, h69, hf⟩ := bd1E hf
        refine kO_virt hx hb hml hown hts hK hn hP (kX1_isThere l D G q_t q_t_ills q_t_roomOf q_t_effects q_t_badFor q_t_likes q_t_sights t_there t_sat t_hour w58 h69) cvX1_58 ⟨Nat.le_of_ble_eq_true rfl, Nat.le_of_ble_eq_true rfl⟩ [0] rfl 0 rfl rfl rfl hl.1 rfl (Nat.le_of_ble_eq_true rfl) ⟨Nat.zero_le _, Nat.zero_le _⟩ dX1_shareOf_32 ?_
        obtain ⟨j85, j86, h106, hf⟩ := bd2E hf
        have E90 : ∀ (z87 : Int32) (z88 : Int32), some (z87, z88) = some (j85, j86) → ∀ ls : Array Slot, lv_has ls 7 [(0, .ref q_t), (1, .int v1), (2, .int v2), (3, .int y5), (4, .int z87), (5, .int z88), (6, .int w58)] → W p l e (kR 4 125) s m args below meth c s.heap [] 0 0 Q (F0 m 76 ls []) := by
          intro z87 z88 hy; obtain ⟨rfl, rfl⟩ := sm2 hy
          intro ls hl
          obtain ⟨y89, ey89⟩ : ∃ y : Int32, y = w58 + (1 : Int32) := ⟨_, rfl⟩
          have hf := nmeU ey89 hf
          refine lv_iinc (v := y89) (lv' := [(6, .int y89), (0, .ref q_t), (1, .int v1), (2, .int v2), (3, .int y5), (4, .int z87), (5, .int z88)]) hx hb dX1_shareOf_76 hl (k := 6) rfl (by rw [ey89]; rfl) (by decide) rfl (fun ls hl => ?_)
          refine lv_goto (tgt := 22) hx hb dX1_shareOf_79 (by decide) ?_
          exact ih _ _ _ hf ls (lv_sub hl [1, 2, 3, 4, 5, 6, 0] rfl)
        have hf := h106
        refine lv_if_eq (tgt := 76) hx hb dX1_shareOf_35 (by decide) (fun c91 => ?_) (fun c91 => ?_)
        · have hf := ifp c91 hf
          exact E90 _ _ hf ls (lv_sub hl [0, 1, 2, 3, 4, 5, 6] rfl)
        · have hf := ifn c91 hf
          refine lv_iload hx hb dX1_shareOf_38 (lv_at hl 4 rfl) ?_
          refine lv_iload_n hx hb dX1_shareOf_40 rfl (lv_at hl 1 rfl) ?_
          refine lv_aload_n hx hb dX1_shareOf_41 rfl (lv_at hl 0 rfl) ?_
          refine lv_iload hx hb dX1_shareOf_42 (lv_at hl 6 rfl) ?_
          obtain ⟨r92, h93, hf⟩ := bd1E hf
          refine kO_virt hx hb hml hown hts hK hn hP (kX1_illsOf l D G q_t q_t_ills q_t_roomOf q_t_effects q_t_badFor q_t_likes q_t_sights t_there t_sat t_hour t_ills w58 h93) cvX1_62 ⟨Nat.le_of_ble_eq_true rfl, Nat.le_of_ble_eq_true rfl⟩ [0, 1] rfl 0 rfl rfl rfl hl.1 rfl (Nat.le_of_ble_eq_true rfl) ⟨Nat.zero_le _, Nat.zero_le _⟩ dX1_shareOf_44 ?_
          refine lv_iconst (v := (1 : Int32)) hx hb dX1_shareOf_47 (by decide) ?_
          refine lv_iadd hx hb dX1_shareOf_48 ?_
          refine lv_iload_n hx hb dX1_shareOf_49 rfl (lv_at hl 3 rfl) ?_
          obtain ⟨r94, h95, hf⟩ := bd1E hf
          refine kO_stat hx hb hml hown hts hK hn hP (kX1_cutShare l D G v1 (r92 + (1 : Int32)) y5 h95) csX1_104 ⟨Nat.le_of_ble_eq_true rfl, Nat.le_of_ble_eq_true rfl⟩ [] rfl rfl hl.1 rfl (Nat.le_of_ble_eq_true rfl) ⟨Nat.zero_le _, Nat.zero_le _⟩ dX1_shareOf_50 ?_
          refine lv_isub hx hb dX1_shareOf_53 ?_
          refine lv_topi (fun y96 ey96 => ?_)
          have hf := nmeU ey96 hf
          refine lv_istore (lv' := [(4, .int y96), (0, .ref q_t), (1, .int v1), (2, .int v2), (3, .int y5), (5, .int w57), (6, .int w58)]) hx hb dX1_shareOf_54 hl (by decide) rfl (fun ls hl => ?_)
          refine lv_iload hx hb dX1_shareOf_56 (lv_at hl 5 rfl) ?_
          refine lv_aload_n hx hb dX1_shareOf_58 rfl (lv_at hl 1 rfl) ?_
          refine lv_iload hx hb dX1_shareOf_59 (lv_at hl 6 rfl) ?_
          refine lv_iload_n hx hb dX1_shareOf_61 rfl (lv_at hl 3 rfl) ?_
          obtain ⟨r97, h98, hf⟩ := bd1E hf
          refine kO_virt hx hb hml hown hts hK hn hP (kX1_paysAhead l D G q_t q_t_ills q_t_roomOf q_t_effects q_t_badFor q_t_likes q_t_sights t_there t_sat t_hour t_ills w58 v2 h98) cvX1_107 ⟨Nat.le_of_ble_eq_true rfl, Nat.le_of_ble_eq_true rfl⟩ [0, 1] rfl 0 rfl rfl rfl hl.1 rfl (Nat.le_of_ble_eq_true rfl) ⟨Nat.zero_le _, Nat.zero_le _⟩ dX1_shareOf_62 ?_
          obtain ⟨j100, h105, hf⟩ := bd1E hf
          have E103 : ∀ (z101 : Int32), some z101 = some j100 → ∀ ls : Array Slot, lv_has ls 7 [(0, .ref q_t), (1, .int v1), (2, .int v2), (3, .int y5), (4, .int y96), (6, .int w58)] → W p l e (kR 4 125) s m args below meth c s.heap [] 0 0 Q (F0 m 73 ls [.int z101, .int w57]) := by
            intro z101 hy; obtain rfl := sm1 hy
            intro ls hl
            refine lv_iadd hx hb dX1_shareOf_73 ?_
            refine lv_topi (fun y102 ey102 => ?_)
            have hf := nmeU ey102 hf
            refine lv_istore (lv' := [(5, .int y102), (0, .ref q_t), (1, .int v1), (2, .int v2), (3, .int y5), (4, .int y96), (6, .int w58)]) hx hb dX1_shareOf_74 hl (by decide) rfl (fun ls hl => ?_)
            exact E90 _ _ hf ls (lv_sub hl [1, 2, 3, 4, 5, 0, 6] rfl)
          have hf := h105
          refine lv_if_eq (tgt := 72) hx hb dX1_shareOf_65 (by decide) (fun c104 => ?_) (fun c104 => ?_)
          · have hf := ifp c104 hf
            refine lv_iconst (v := (0 : Int32)) hx hb dX1_shareOf_72 (by decide) ?_
            exact E103 _ hf ls (lv_sub hl [1, 2, 3, 4, 0, 6] rfl)
          · have hf := ifn c104 hf
            refine lv_iconst (v := (1 : Int32)) hx hb dX1_shareOf_68 (by decide) ?_
            refine lv_goto (tgt := 73) hx hb dX1_shareOf_69 (by decide) ?_
            exact E103 _ hf ls (lv_sub hl [1, 2, 3, 4, 0, 6] rfl)
  exact L62 fu v1 (0 : Int32) (0 : Int32) h64 ls (lv_sub hl [4, 5, 6, 3, 2, 1, 0] rfl)
set_option maxHeartbeats 4000000 in
set_option maxRecDepth 100000 in
theorem kX5_copyFrom (l : Launch) (D : va_G) (G : Nat → ClassId) (q_t q_p1 q_t_before q_t_hours q_t_after q_p1_before q_p1_hours q_p1_after : Nat) (t_count : Int32) (t_before : Nat → Int32) (t_hours : Nat → Int32) (t_after : Nat → Int32) (p1_count : Int32) (p1_before : Nat → Int32) (p1_hours : Nat → Int32) (p1_after : Nat → Int32) {o_t_count : Int32} {o_t_before : Nat → Int32} {o_t_hours : Nat → Int32} {o_t_after : Nat → Int32} (hf : fX5_copyFrom t_count t_before t_hours t_after p1_count p1_before p1_hours p1_after = some (o_t_count, o_t_before, o_t_hours, o_t_after)) : rW l D G yX5_copyFrom cX5_copyFrom 2 none 2 120 [.ref q_t, .ref q_p1] [(q_t, .inr (5, [.int t_count, .ref q_t_before, .ref q_t_hours, .ref q_t_after])), (q_t_before, .inl (G 0, 8, .inl t_before)), (q_t_hours, .inl (G 0, 8, .inl t_hours)), (q_t_after, .inl (G 0, 8, .inl t_after)), (q_p1, .inr (5, [.int p1_count, .ref q_p1_before, .ref q_p1_hours, .ref q_p1_after])), (q_p1_before, .inl (G 0, 8, .inl p1_before)), (q_p1_hours, .inl (G 0, 8, .inl p1_hours)), (q_p1_after, .inl (G 0, 8, .inl p1_after))] [(q_t, .inr (5, [.int o_t_count, .ref q_t_before, .ref q_t_hours, .ref q_t_after])), (q_t_before, .inl (G 0, 8, .inl o_t_before)), (q_t_hours, .inl (G 0, 8, .inl o_t_hours)), (q_t_after, .inl (G 0, 8, .inl o_t_after)), (q_p1, .inr (5, [.int p1_count, .ref q_p1_before, .ref q_p1_hours, .ref q_p1_after])), (q_p1_before, .inl (G 0, 8, .inl p1_before)), (q_p1_hours, .inl (G 0, 8, .inl p1_hours)), (q_p1_after, .inl (G 0, 8, .inl p1_after))] none := by
  refine rW_of (by decide) (Nat.le_of_ble_eq_true rfl) ?_
  intro p e s m args below meth c Q A hx hb hml hown hts hK hn hA RET H locs hP hD hS ls hl
  have RT : ∀ (a0_ : Int32) (a1_ : Nat → Int32) (a2_ : Nat → Int32) (a3_ : Nat → Int32), some (a0_, a1_, a2_, a3_) = some (o_t_count, o_t_before, o_t_hours, o_t_after) → ∀ (pc : Nat) (ls : Array Slot) (ins : Instr) (H : Heap) (locs : List Loc), decode cX5_copyFrom pc = .ok (ins, 1) → rk none none ins → va_P D vwCl [(q_t, .inr (5, [.int a0_, .ref q_t_before, .ref q_t_hours, .ref q_t_after])), (q_t_before, .inl (G 0, 8, .inl a1_)), (q_t_hours, .inl (G 0, 8, .inl a2_)), (q_t_after, .inl (G 0, 8, .inl a3_)), (q_p1, .inr (5, [.int p1_count, .ref q_p1_before, .ref q_p1_hours, .ref q_p1_after])), (q_p1_before, .inl (G 0, 8, .inl p1_before)), (q_p1_hours, .inl (G 0, 8, .inl p1_hours)), (q_p1_after, .inl (G 0, 8, .inl p1_after))] H → va_D A [(q_t, .inr (5, [.int a0_, .ref q_t_before, .ref q_t_hours, .ref q_t_after])), (q_t_before, .inl (G 0, 8, .inl a1_)), (q_t_hours, .inl (G 0, 8, .inl a2_)), (q_t_after, .inl (G 0, 8, .inl a3_)), (q_p1, .inr (5, [.int p1_count, .ref q_p1_before, .ref q_p1_hours, .ref q_p1_after])), (q_p1_before, .inl (G 0, 8, .inl p1_before)), (q_p1_hours, .inl (G 0, 8, .inl p1_hours)), (q_p1_after, .inl (G 0, 8, .inl p1_after))] → va_S A s.heap H locs → W p l e (kR 2 120) s m args below meth c H locs 0 0 Q (F0 m pc ls []) := by
    intro a0_ a1_ a2_ a3_ hy; obtain ⟨rfl, rfl, rfl, rfl⟩ := sm4 hy
    exact RET
  have hown : s.vm.findClass RX5 = some m.cls := hown
  have hl : lv_has ls 2 [(0, .ref q_t), (1, .ref q_p1)] := hl
  clear RET
  rw [fX5_copyFrom] at hf
  refine lv_aload_n hx hb dX5_copyFrom_0 rfl (lv_at hl 0 rfl) ?_
  refine lv_aload_n hx hb dX5_copyFrom_1 rfl (lv_at hl 1 rfl) ?_
  refine va_get (D := D) (ci := 5) (v := .int p1_count) (C := RX5) (T := TX5) (N := 4) hx hb hts inX5 hown hK hP 4 rfl rfl 0 (by decide) (hts _ lfX5_21) (fun _ h9 => h9) rfl dX5_copyFrom_2 ?_
  refine va_put (D := D) (ci := 5) (v := .int p1_count) (ty := .int) (C := RX5) (T := TX5) (N := 4) hx hb hts inX5 tyX5 tyX5_ok nmX5 hown hK hP hD hS 0 rfl rfl 0 (by decide) (hts _ lfX5_21) (fun _ h9 => h9) rfl (tyX5_ok 0 (by decide)) rfl rfl (Nat.le_of_ble_eq_true rfl) dX5_copyFrom_5 (fun H locs hP hD hS => ?_)
  have hP : va_P D vwCl [(q_t, .inr (5, [.int p1_count, .ref q_t_before, .ref q_t_hours, .ref q_t_after])), (q_t_before, .inl (G 0, 8, .inl t_before)), (q_t_hours, .inl (G 0, 8, .inl t_hours)), (q_t_after, .inl (G 0, 8, .inl t_after)), (q_p1, .inr (5, [.int p1_count, .ref q_p1_before, .ref q_p1_hours, .ref q_p1_after])), (q_p1_before, .inl (G 0, 8, .inl p1_before)), (q_p1_hours, .inl (G 0, 8, .inl p1_hours)), (q_p1_after, .inl (G 0, 8, .inl p1_after))] H := hP
  have hD : va_D A [(q_t, .inr (5, [.int p1_count, .ref q_t_before, .ref q_t_hours, .ref q_t_after])), (q_t_before, .inl (G 0, 8, .inl t_before)), (q_t_hours, .inl (G 0, 8, .inl t_hours)), (q_t_after, .inl (G 0, 8, .inl t_after)), (q_p1, .inr (5, [.int p1_count, .ref q_p1_before, .ref q_p1_hours, .ref q_p1_after])), (q_p1_before, .inl (G 0, 8, .inl p1_before)), (q_p1_hours, .inl (G 0, 8, .inl p1_hours)), (q_p1_after, .inl (G 0, 8, .inl p1_after))] := hD
  refine lv_aload_n hx hb dX5_copyFrom_8 rfl (lv_at hl 1 rfl) ?_
  refine va_get (D := D) (ci := 5) (v := .ref q_p1_before) (C := RX5) (T := TX5) (N := 4) hx hb hts inX5 hown hK hP 4 rfl rfl 1 (by decide) (hts _ lfX5_11) (fun _ h9 => h9) rfl dX5_copyFrom_9 ?_
  refine lv_iconst (v := (0 : Int32)) hx hb dX5_copyFrom_12 (by decide) ?_
  refine lv_aload_n hx hb dX5_copyFrom_13 rfl (lv_at hl 0 rfl) ?_
  refine va_get (D := D) (ci := 5) (v := .ref q_t_before) (C := RX5) (T := TX5) (N := 4) hx hb hts inX5 hown hK hP 0 rfl rfl 1 (by decide) (hts _ lfX5_11) (fun _ h9 => h9) rfl dX5_copyFrom_14 ?_
  refine lv_iconst (v := (0 : Int32)) hx hb dX5_copyFrom_17 (by decide) ?_
  refine lv_bipush (v := (8 : Int32)) hx hb dX5_copyFrom_18 (by decide) ?_
  obtain ⟨g1, eg1⟩ : ∃ y : Nat → Int32, y = (va_cpy p1_before t_before ((0 : Int32)).toNatClampNeg ((0 : Int32)).toNatClampNeg ((8 : Int32)).toNatClampNeg) := ⟨_, rfl⟩
  have hf := nmeU eg1 hf
  refine va_copyi hx hb (hml.trans hl.1.symm) hown (hts _ lmX5_25) (hts _ kv_arraycopy) (hts _ ks_arraycopy) (hts _ niJ10) hK hP hD hS 5 1 0 0 rfl rfl rfl rfl rfl (by decide) (by decide) (by decide) (by decide) (by decide) (fun _ _ => rfl) (Nat.le_of_ble_eq_true rfl) (Nat.le_of_ble_eq_true rfl) dX5_copyFrom_20 (fun H locs hP hD hS => ?_)
  rw [← eg1] at hP hD
  have hP : va_P D vwCl [(q_t, .inr (5, [.int p1_count, .ref q_t_before, .ref q_t_hours, .ref q_t_after])), (q_t_before, .inl (G 0, 8, .inl g1)), (q_t_hours, .inl (G 0, 8, .inl t_hours)), (q_t_after, .inl (G 0, 8, .inl t_after)), (q_p1, .inr (5, [.int p1_count, .ref q_p1_before, .ref q_p1_hours, .ref q_p1_after])), (q_p1_before, .inl (G 0, 8, .inl p1_before)), (q_p1_hours, .inl (G 0, 8, .inl p1_hours)), (q_p1_after, .inl (G 0, 8, .inl p1_after))] H := hP
  have hD : va_D A [(q_t, .inr (5, [.int p1_count, .ref q_t_before, .ref q_t_hours, .ref q_t_after])), (q_t_before, .inl (G 0, 8, .inl g1)), (q_t_hours, .inl (G 0, 8, .inl t_hours)), (q_t_after, .inl (G 0, 8, .inl t_after)), (q_p1, .inr (5, [.int p1_count, .ref q_p1_before, .ref q_p1_hours, .ref q_p1_after])), (q_p1_before, .inl (G 0, 8, .inl p1_before)), (q_p1_hours, .inl (G 0, 8, .inl p1_hours)), (q_p1_after, .inl (G 0, 8, .inl p1_after))] := hD
  refine lv_aload_n hx hb dX5_copyFrom_23 rfl (lv_at hl 1 rfl) ?_
  refine va_get (D := D) (ci := 5) (v := .ref q_p1_hours) (C := RX5) (T := TX5) (N := 4) hx hb hts inX5 hown hK hP 4 rfl rfl 2 (by decide) (hts _ lfX5_15) (fun _ h9 => h9) rfl dX5_copyFrom_24 ?_
  refine lv_iconst (v := (0 : Int32)) hx hb dX5_copyFrom_27 (by decide) ?_
  refine lv_aload_n hx hb dX5_copyFrom_28 rfl (lv_at hl 0 rfl) ?_
  refine va_get (D := D) (ci := 5) (v := .ref q_t_hours) (C := RX5) (T := TX5) (N := 4) hx hb hts inX5 hown hK hP 0 rfl rfl 2 (by decide) (hts _ lfX5_15) (fun _ h9 => h9) rfl dX5_copyFrom_29 ?_
  refine lv_iconst (v := (0 : Int32)) hx hb dX5_copyFrom_32 (by decide) ?_
  refine lv_bipush (v := (8 : Int32)) hx hb dX5_copyFrom_33 (by decide) ?_
  obtain ⟨g2, eg2⟩ : ∃ y : Nat → Int32, y = (va_cpy p1_hours t_hours ((0 : Int32)).toNatClampNeg ((0 : Int32)).toNatClampNeg ((8 : Int32)).toNatClampNeg) := ⟨_, rfl⟩
  have hf := nmeU eg2 hf
  refine va_copyi hx hb (hml.trans hl.1.symm) hown (hts _ lmX5_25) (hts _ kv_arraycopy) (hts _ ks_arraycopy) (hts _ niJ10) hK hP hD hS 6 2 0 0 rfl rfl rfl rfl rfl (by decide) (by decide) (by decide) (by decide) (by decide) (fun _ _ => rfl) (Nat.le_of_ble_eq_true rfl) (Nat.le_of_ble_eq_true rfl) dX5_copyFrom_35 (fun H locs hP hD hS => ?_)
  rw [← eg2] at hP hD
  have hP : va_P D vwCl [(q_t, .inr (5, [.int p1_count, .ref q_t_before, .ref q_t_hours, .ref q_t_after])), (q_t_before, .inl (G 0, 8, .inl g1)), (q_t_hours, .inl (G 0, 8, .inl g2)), (q_t_after, .inl (G 0, 8, .inl t_after)), (q_p1, .inr (5, [.int p1_count, .ref q_p1_before, .ref q_p1_hours, .ref q_p1_after])), (q_p1_before, .inl (G 0, 8, .inl p1_before)), (q_p1_hours, .inl (G 0, 8, .inl p1_hours)), (q_p1_after, .inl (G 0, 8, .inl p1_after))] H := hP
  have hD : va_D A [(q_t, .inr (5, [.int p1_count, .ref q_t_before, .ref q_t_hours, .ref q_t_after])), (q_t_before, .inl (G 0, 8, .inl g1)), (q_t_hours, .inl (G 0, 8, .inl g2)), (q_t_after, .inl (G 0, 8, .inl t_after)), (q_p1, .inr (5, [.int p1_count, .ref q_p1_before, .ref q_p1_hours, .ref q_p1_after])), (q_p1_before, .inl (G 0, 8, .inl p1_before)), (q_p1_hours, .inl (G 0, 8, .inl p1_hours)), (q_p1_after, .inl (G 0, 8, .inl p1_after))] := hD
  refine lv_aload_n hx hb dX5_copyFrom_38 rfl (lv_at hl 1 rfl) ?_
  refine va_get (D := D) (ci := 5) (v := .ref q_p1_after) (C := RX5) (T := TX5) (N := 4) hx hb hts inX5 hown hK hP 4 rfl rfl 3 (by decide) (hts _ lfX5_18) (fun _ h9 => h9) rfl dX5_copyFrom_39 ?_
  refine lv_iconst (v := (0 : Int32)) hx hb dX5_copyFrom_42 (by decide) ?_
  refine lv_aload_n hx hb dX5_copyFrom_43 rfl (lv_at hl 0 rfl) ?_
  refine va_get (D := D) (ci := 5) (v := .ref q_t_after) (C := RX5) (T := TX5) (N := 4) hx hb hts inX5 hown hK hP 0 rfl rfl 3 (by decide) (hts _ lfX5_18) (fun _ h9 => h9) rfl dX5_copyFrom_44 ?_
  refine lv_iconst (v := (0 : Int32)) hx hb dX5_copyFrom_47 (by decide) ?_
  refine lv_bipush (v := (8 : Int32)) hx hb dX5_copyFrom_48 (by decide) ?_
  obtain ⟨g3, eg3⟩ : ∃ y : Nat → Int32, y = (va_cpy p1_after t_after ((0 : Int32)).toNatClampNeg ((0 : Int32)).toNatClampNeg ((8 : Int32)).toNatClampNeg) := ⟨_, rfl⟩
  have hf := nmeU eg3 hf
  refine va_copyi hx hb (hml.trans hl.1.symm) hown (hts _ lmX5_25) (hts _ kv_arraycopy) (hts _ ks_arraycopy) (hts _ niJ10) hK hP hD hS 7 3 0 0 rfl rfl rfl rfl rfl (by decide) (by decide) (by decide) (by decide) (by decide) (fun _ _ => rfl) (Nat.le_of_ble_eq_true rfl) (Nat.le_of_ble_eq_true rfl) dX5_copyFrom_50 (fun H locs hP hD hS => ?_)
  rw [← eg3] at hP hD
  have hP : va_P D vwCl [(q_t, .inr (5, [.int p1_count, .ref q_t_before, .ref q_t_hours, .ref q_t_after])), (q_t_before, .inl (G 0, 8, .inl g1)), (q_t_hours, .inl (G 0, 8, .inl g2)), (q_t_after, .inl (G 0, 8, .inl g3)), (q_p1, .inr (5, [.int p1_count, .ref q_p1_before, .ref q_p1_hours, .ref q_p1_after])), (q_p1_before, .inl (G 0, 8, .inl p1_before)), (q_p1_hours, .inl (G 0, 8, .inl p1_hours)), (q_p1_after, .inl (G 0, 8, .inl p1_after))] H := hP
  have hD : va_D A [(q_t, .inr (5, [.int p1_count, .ref q_t_before, .ref q_t_hours, .ref q_t_after])), (q_t_before, .inl (G 0, 8, .inl g1)), (q_t_hours, .inl (G 0, 8, .inl g2)), (q_t_after, .inl (G 0, 8, .inl g3)), (q_p1, .inr (5, [.int p1_count, .ref q_p1_before, .ref q_p1_hours, .ref q_p1_after])), (q_p1_before, .inl (G 0, 8, .inl p1_before)), (q_p1_hours, .inl (G 0, 8, .inl p1_hours)), (q_p1_after, .inl (G 0, 8, .inl p1_after))] := hD
  exact RT _ _ _ _ hf _ _ _ H locs dX5_copyFrom_53 rkV hP hD hS
set_option maxHeartbeats 4000000 in
set_option maxRecDepth 100000 in
theorem kX1_takeFrom (l : Launch) (D : va_G) (G : Nat → ClassId) (q_t q_p1 q_t_ills q_t_roomOf q_t_effects q_t_badFor q_t_likes q_t_sights q_t_sights_before q_t_sights_hours q_t_sights_after q_p1_ills q_p1_roomOf q_p1_effects q_p1_badFor q_p1_likes q_p1_sights q_p1_sights_before q_p1_sights_hours q_p1_sights_after : Nat) (t_there : Int32) (t_sat : Int32) (t_hour : Int32) (t_ills : Nat → Int32) (t_roomOf : Nat → Int32) (t_effects : Nat → Int32) (t_badFor : Nat → Int32) (t_likes : Nat → Int32) (t_sights_count : Int32) (t_sights_before : Nat → Int32) (t_sights_hours : Nat → Int32) (t_sights_after : Nat → Int32) (p1_there : Int32) (p1_sat : Int32) (p1_hour : Int32) (p1_ills : Nat → Int32) (p1_roomOf : Nat → Int32) (p1_effects : Nat → Int32) (p1_badFor : Nat → Int32) (p1_likes : Nat → Int32) (p1_sights_count : Int32) (p1_sights_before : Nat → Int32) (p1_sights_hours : Nat → Int32) (p1_sights_after : Nat → Int32) {o_t_there : Int32} {o_t_sat : Int32} {o_t_hour : Int32} {o_t_ills : Nat → Int32} {o_t_roomOf : Nat → Int32} {o_t_effects : Nat → Int32} {o_t_badFor : Nat → Int32} {o_t_likes : Nat → Int32} {o_t_sights_count : Int32} {o_t_sights_before : Nat → Int32} {o_t_sights_hours : Nat → Int32} {o_t_sights_after : Nat → Int32} (hf : fX1_takeFrom t_there t_sat t_hour t_ills t_roomOf t_effects t_badFor t_likes t_sights_count t_sights_before t_sights_hours t_sights_after p1_there p1_sat p1_hour p1_ills p1_roomOf p1_effects p1_badFor p1_likes p1_sights_count p1_sights_before p1_sights_hours p1_sights_after = some (o_t_there, o_t_sat, o_t_hour, o_t_ills, o_t_roomOf, o_t_effects, o_t_badFor, o_t_likes, o_t_sights_count, o_t_sights_before, o_t_sights_hours, o_t_sights_after)) : rW l D G yX1_takeFrom cX1_takeFrom 2 none 3 141 [.ref q_t, .ref q_p1] [(q_t, .inr (1, [.int t_there, .int t_sat, .int t_hour, .ref q_t_ills, .ref q_t_roomOf, .ref q_t_effects, .ref q_t_badFor, .ref q_t_likes, .ref q_t_sights])), (q_t_ills, .inl (G 0, 18, .inl t_ills)), (q_t_roomOf, .inl (G 0, 6, .inl t_roomOf)), (q_t_effects, .inl (G 0, 12, .inl t_effects)), (q_t_badFor, .inl (G 0, 36, .inl t_badFor)), (q_t_likes, .inl (G 0, 6, .inl t_likes)), (q_t_sights, .inr (5, [.int t_sights_count, .ref q_t_sights_before, .ref q_t_sights_hours, .ref q_t_sights_after])), (q_t_sights_before, .inl (G 0, 8, .inl t_sights_before)), (q_t_sights_hours, .inl (G 0, 8, .inl t_sights_hours)), (q_t_sights_after, .inl (G 0, 8, .inl t_sights_after)), (q_p1, .inr (1, [.int p1_there, .int p1_sat, .int p1_hour, .ref q_p1_ills, .ref q_p1_roomOf, .ref q_p1_effects, .ref q_p1_badFor, .ref q_p1_likes, .ref q_p1_sights])), (q_p1_ills, .inl (G 0, 18, .inl p1_ills)), (q_p1_roomOf, .inl (G 0, 6, .inl p1_roomOf)), (q_p1_effects, .inl (G 0, 12, .inl p1_effects)), (q_p1_badFor, .inl (G 0, 36, .inl p1_badFor)), (q_p1_likes, .inl (G 0, 6, .inl p1_likes)), (q_p1_sights, .inr (5, [.int p1_sights_count, .ref q_p1_sights_before, .ref q_p1_sights_hours, .ref q_p1_sights_after])), (q_p1_sights_before, .inl (G 0, 8, .inl p1_sights_before)), (q_p1_sights_hours, .inl (G 0, 8, .inl p1_sights_hours)), (q_p1_sights_after, .inl (G 0, 8, .inl p1_sights_after))] [(q_t, .inr (1, [.int o_t_there, .int o_t_sat, .int o_t_hour, .ref q_t_ills, .ref q_t_roomOf, .ref q_t_effects, .ref q_t_badFor, .ref q_t_likes, .ref q_t_sights])), (q_t_ills, .inl (G 0, 18, .inl o_t_ills)), (q_t_roomOf, .inl (G 0, 6, .inl o_t_roomOf)), (q_t_effects, .inl (G 0, 12, .inl o_t_effects)), (q_t_badFor, .inl (G 0, 36, .inl o_t_badFor)), (q_t_likes, .inl (G 0, 6, .inl o_t_likes)), (q_t_sights, .inr (5, [.int o_t_sights_count, .ref q_t_sights_before, .ref q_t_sights_hours, .ref q_t_sights_after])), (q_t_sights_before, .inl (G 0, 8, .inl o_t_sights_before)), (q_t_sights_hours, .inl (G 0, 8, .inl o_t_sights_hours)), (q_t_sights_after, .inl (G 0, 8, .inl o_t_sights_after)), (q_p1, .inr (1, [.int p1_there, .int p1_sat, .int p1_hour, .ref q_p1_ills, .ref q_p1_roomOf, .ref q_p1_effects, .ref q_p1_badFor, .ref q_p1_likes, .ref q_p1_sights])), (q_p1_ills, .inl (G 0, 18, .inl p1_ills)), (q_p1_roomOf, .inl (G 0, 6, .inl p1_roomOf)), (q_p1_effects, .inl (G 0, 12, .inl p1_effects)), (q_p1_badFor, .inl (G 0, 36, .inl p1_badFor)), (q_p1_likes, .inl (G 0, 6, .inl p1_likes)), (q_p1_sights, .inr (5, [.int p1_sights_count, .ref q_p1_sights_before, .ref q_p1_sights_hours, .ref q_p1_sights_after])), (q_p1_sights_before, .inl (G 0, 8, .inl p1_sights_before)), (q_p1_sights_hours, .inl (G 0, 8, .inl p1_sights_hours)), (q_p1_sights_after, .inl (G 0, 8, .inl p1_sights_after))] none := by
  refine rW_of (by decide) (Nat.le_of_ble_eq_true rfl) ?_
  intro p e s m args below meth c Q A hx hb hml hown hts hK hn hA RET H locs hP hD hS ls hl
  have RT : ∀ (a0_ : Int32) (a1_ : Int32) (a2_ : Int32) (a3_ : Nat → Int32) (a4_ : Nat → Int32) (a5_ : Nat → Int32) (a6_ : Nat → Int32) (a7_ : Nat → Int32) (a8_ : Int32) (a9_ : Nat → Int32) (a10_ : Nat → Int32) (a11_ : Nat → Int32), some (a0_, a1_, a2_, a3_, a4_, a5_, a6_, a7_, a8_, a9_, a10_, a11_) = some (o_t_there, o_t_sat, o_t_hour, o_t_ills, o_t_roomOf, o_t_effects, o_t_badFor, o_t_likes, o_t_sights_count, o_t_sights_before, o_t_sights_hours, o_t_sights_after) → ∀ (pc : Nat) (ls : Array Slot) (ins : Instr) (H : Heap) (locs : List Loc), decode cX1_takeFrom pc = .ok (ins, 1) → rk none none ins → va_P D vwCl [(q_t, .inr (1, [.int a0_, .int a1_, .int a2_, .ref q_t_ills, .ref q_t_roomOf, .ref q_t_effects, .ref q_t_badFor, .ref q_t_likes, .ref q_t_sights])), (q_t_ills, .inl (G 0, 18, .inl a3_)), (q_t_roomOf, .inl (G 0, 6, .inl a4_)), (q_t_effects, .inl (G 0, 12, .inl a5_)), (q_t_badFor, .inl (G 0, 36, .inl a6_)), (q_t_likes, .inl (G 0, 6, .inl a7_)), (q_t_sights, .inr (5, [.int a8_, .ref q_t_sights_before, .ref q_t_sights_hours, .ref q_t_sights_after])), (q_t_sights_before, .inl (G 0, 8, .inl a9_)), (q_t_sights_hours, .inl (G 0, 8, .inl a10_)), (q_t_sights_after, .inl (G 0, 8, .inl a11_)), (q_p1, .inr (1, [.int p1_there, .int p1_sat, .int p1_hour, .ref q_p1_ills, .ref q_p1_roomOf, .ref q_p1_effects, .ref q_p1_badFor, .ref q_p1_likes, .ref q_p1_sights])), (q_p1_ills, .inl (G 0, 18, .inl p1_ills)), (q_p1_roomOf, .inl (G 0, 6, .inl p1_roomOf)), (q_p1_effects, .inl (G 0, 12, .inl p1_effects)), (q_p1_badFor, .inl (G 0, 36, .inl p1_badFor)), (q_p1_likes, .inl (G 0, 6, .inl p1_likes)), (q_p1_sights, .inr (5, [.int p1_sights_count, .ref q_p1_sights_before, .ref q_p1_sights_hours, .ref q_p1_sights_after])), (q_p1_sights_before, .inl (G 0, 8, .inl p1_sights_before)), (q_p1_sights_hours, .inl (G 0, 8, .inl p1_sights_hours)), (q_p1_sights_after, .inl (G 0, 8, .inl p1_sights_after))] H → va_D A [(q_t, .inr (1, [.int a0_, .int a1_, .int a2_, .ref q_t_ills, .ref q_t_roomOf, .ref q_t_effects, .ref q_t_badFor, .ref q_t_likes, .ref q_t_sights])), (q_t_ills, .inl (G 0, 18, .inl a3_)), (q_t_roomOf, .inl (G 0, 6, .inl a4_)), (q_t_effects, .inl (G 0, 12, .inl a5_)), (q_t_badFor, .inl (G 0, 36, .inl a6_)), (q_t_likes, .inl (G 0, 6, .inl a7_)), (q_t_sights, .inr (5, [.int a8_, .ref q_t_sights_before, .ref q_t_sights_hours, .ref q_t_sights_after])), (q_t_sights_before, .inl (G 0, 8, .inl a9_)), (q_t_sights_hours, .inl (G 0, 8, .inl a10_)), (q_t_sights_after, .inl (G 0, 8, .inl a11_)), (q_p1, .inr (1, [.int p1_there, .int p1_sat, .int p1_hour, .ref q_p1_ills, .ref q_p1_roomOf, .ref q_p1_effects, .ref q_p1_badFor, .ref q_p1_likes, .ref q_p1_sights])), (q_p1_ills, .inl (G 0, 18, .inl p1_ills)), (q_p1_roomOf, .inl (G 0, 6, .inl p1_roomOf)), (q_p1_effects, .inl (G 0, 12, .inl p1_effects)), (q_p1_badFor, .inl (G 0, 36, .inl p1_badFor)), (q_p1_likes, .inl (G 0, 6, .inl p1_likes)), (q_p1_sights, .inr (5, [.int p1_sights_count, .ref q_p1_sights_before, .ref q_p1_sights_hours, .ref q_p1_sights_after])), (q_p1_sights_before, .inl (G 0, 8, .inl p1_sights_before)), (q_p1_sights_hours, .inl (G 0, 8, .inl p1_sights_hours)), (q_p1_sights_after, .inl (G 0, 8, .inl p1_sights_after))] → va_S A s.heap H locs → W p l e (kR 3 141) s m args below meth c H locs 0 0 Q (F0 m pc ls []) := by
    intro a0_ a1_ a2_ a3_ a4_ a5_ a6_ a7_ a8_ a9_ a10_ a11_ hy; obtain ⟨rfl, rfl, rfl, rfl, rfl, rfl, rfl, rfl, rfl, rfl, rfl, rfl⟩ := sm12 hy
    exact RET
  have hown : s.vm.findClass RX1 = some m.cls := hown
  have hl : lv_has ls 2 [(0, .ref q_t), (1, .ref q_p1)] := hl
  clear RET
  rw [fX1_takeFrom] at hf
  refine lv_aload_n hx hb dX1_takeFrom_0 rfl (lv_at hl 0 rfl) ?_
  refine lv_aload_n hx hb dX1_takeFrom_1 rfl (lv_at hl 1 rfl) ?_
  refine va_get (D := D) (ci := 1) (v := .int p1_there) (C := RX1) (T := TX1) (N := 9) hx hb hts inX1 hown hK hP 10 rfl rfl 0 (by decide) (hts _ lfX1_34) (fun _ h9 => h9) rfl dX1_takeFrom_2 ?_
  refine va_put (D := D) (ci := 1) (v := .int p1_there) (ty := .int) (C := RX1) (T := TX1) (N := 9) hx hb hts inX1 tyX1 tyX1_ok nmX1 hown hK hP hD hS 0 rfl rfl 0 (by decide) (hts _ lfX1_34) (fun _ h9 => h9) rfl (tyX1_ok 0 (by decide)) rfl rfl (Nat.le_of_ble_eq_true rfl) dX1_takeFrom_5 (fun H locs hP hD hS => ?_)
  have hP : va_P D vwCl [(q_t, .inr (1, [.int p1_there, .int t_sat, .int t_hour, .ref q_t_ills, .ref q_t_roomOf, .ref q_t_effects, .ref q_t_badFor, .ref q_t_likes, .ref q_t_sights])), (q_t_ills, .inl (G 0, 18, .inl t_ills)), (q_t_roomOf, .inl (G 0, 6, .inl t_roomOf)), (q_t_effects, .inl (G 0, 12, .inl t_effects)), (q_t_badFor, .inl (G 0, 36, .inl t_badFor)), (q_t_likes, .inl (G 0, 6, .inl t_likes)), (q_t_sights, .inr (5, [.int t_sights_count, .ref q_t_sights_before, .ref q_t_sights_hours, .ref q_t_sights_after])), (q_t_sights_before, .inl (G 0, 8, .inl t_sights_before)), (q_t_sights_hours, .inl (G 0, 8, .inl t_sights_hours)), (q_t_sights_after, .inl (G 0, 8, .inl t_sights_after)), (q_p1, .inr (1, [.int p1_there, .int p1_sat, .int p1_hour, .ref q_p1_ills, .ref q_p1_roomOf, .ref q_p1_effects, .ref q_p1_badFor, .ref q_p1_likes, .ref q_p1_sights])), (q_p1_ills, .inl (G 0, 18, .inl p1_ills)), (q_p1_roomOf, .inl (G 0, 6, .inl p1_roomOf)), (q_p1_effects, .inl (G 0, 12, .inl p1_effects)), (q_p1_badFor, .inl (G 0, 36, .inl p1_badFor)), (q_p1_likes, .inl (G 0, 6, .inl p1_likes)), (q_p1_sights, .inr (5, [.int p1_sights_count, .ref q_p1_sights_before, .ref q_p1_sights_hours, .ref q_p1_sights_after])), (q_p1_sights_before, .inl (G 0, 8, .inl p1_sights_before)), (q_p1_sights_hours, .inl (G 0, 8, .inl p1_sights_hours)), (q_p1_sights_after, .inl (G 0, 8, .inl p1_sights_after))] H := hP
  have hD : va_D A [(q_t, .inr (1, [.int p1_there, .int t_sat, .int t_hour, .ref q_t_ills, .ref q_t_roomOf, .ref q_t_effects, .ref q_t_badFor, .ref q_t_likes, .ref q_t_sights])), (q_t_ills, .inl (G 0, 18, .inl t_ills)), (q_t_roomOf, .inl (G 0, 6, .inl t_roomOf)), (q_t_effects, .inl (G 0, 12, .inl t_effects)), (q_t_badFor, .inl (G 0, 36, .inl t_badFor)), (q_t_likes, .inl (G 0, 6, .inl t_likes)), (q_t_sights, .inr (5, [.int t_sights_count, .ref q_t_sights_before, .ref q_t_sights_hours, .ref q_t_sights_after])), (q_t_sights_before, .inl (G 0, 8, .inl t_sights_before)), (q_t_sights_hours, .inl (G 0, 8, .inl t_sights_hours)), (q_t_sights_after, .inl (G 0, 8, .inl t_sights_after)), (q_p1, .inr (1, [.int p1_there, .int p1_sat, .int p1_hour, .ref q_p1_ills, .ref q_p1_roomOf, .ref q_p1_effects, .ref q_p1_badFor, .ref q_p1_likes, .ref q_p1_sights])), (q_p1_ills, .inl (G 0, 18, .inl p1_ills)), (q_p1_roomOf, .inl (G 0, 6, .inl p1_roomOf)), (q_p1_effects, .inl (G 0, 12, .inl p1_effects)), (q_p1_badFor, .inl (G 0, 36, .inl p1_badFor)), (q_p1_likes, .inl (G 0, 6, .inl p1_likes)), (q_p1_sights, .inr (5, [.int p1_sights_count, .ref q_p1_sights_before, .ref q_p1_sights_hours, .ref q_p1_sights_after])), (q_p1_sights_before, .inl (G 0, 8, .inl p1_sights_before)), (q_p1_sights_hours, .inl (G 0, 8, .inl p1_sights_hours)), (q_p1_sights_after, .inl (G 0, 8, .inl p1_sights_after))] := hD
  refine lv_aload_n hx hb dX1_takeFrom_8 rfl (lv_at hl 0 rfl) ?_
  refine lv_aload_n hx hb dX1_takeFrom_9 rfl (lv_at hl 1 rfl) ?_
  refine va_get (D := D) (ci := 1) (v := .int p1_sat) (C := RX1) (T := TX1) (N := 9) hx hb hts inX1 hown hK hP 10 rfl rfl 1 (by decide) (hts _ lfX1_38) (fun _ h9 => h9) rfl dX1_takeFrom_10 ?_
  refine va_put (D := D) (ci := 1) (v := .int p1_sat) (ty := .int) (C := RX1) (T := TX1) (N := 9) hx hb hts inX1 tyX1 tyX1_ok nmX1 hown hK hP hD hS 0 rfl rfl 1 (by decide) (hts _ lfX1_38) (fun _ h9 => h9) rfl (tyX1_ok 1 (by decide)) rfl rfl (Nat.le_of_ble_eq_true rfl) dX1_takeFrom_13 (fun H locs hP hD hS => ?_)
  have hP : va_P D vwCl [(q_t, .inr (1, [.int p1_there, .int p1_sat, .int t_hour, .ref q_t_ills, .ref q_t_roomOf, .ref q_t_effects, .ref q_t_badFor, .ref q_t_likes, .ref q_t_sights])), (q_t_ills, .inl (G 0, 18, .inl t_ills)), (q_t_roomOf, .inl (G 0, 6, .inl t_roomOf)), (q_t_effects, .inl (G 0, 12, .inl t_effects)), (q_t_badFor, .inl (G 0, 36, .inl t_badFor)), (q_t_likes, .inl (G 0, 6, .inl t_likes)), (q_t_sights, .inr (5, [.int t_sights_count, .ref q_t_sights_before, .ref q_t_sights_hours, .ref q_t_sights_after])), (q_t_sights_before, .inl (G 0, 8, .inl t_sights_before)), (q_t_sights_hours, .inl (G 0, 8, .inl t_sights_hours)), (q_t_sights_after, .inl (G 0, 8, .inl t_sights_after)), (q_p1, .inr (1, [.int p1_there, .int p1_sat, .int p1_hour, .ref q_p1_ills, .ref q_p1_roomOf, .ref q_p1_effects, .ref q_p1_badFor, .ref q_p1_likes, .ref q_p1_sights])), (q_p1_ills, .inl (G 0, 18, .inl p1_ills)), (q_p1_roomOf, .inl (G 0, 6, .inl p1_roomOf)), (q_p1_effects, .inl (G 0, 12, .inl p1_effects)), (q_p1_badFor, .inl (G 0, 36, .inl p1_badFor)), (q_p1_likes, .inl (G 0, 6, .inl p1_likes)), (q_p1_sights, .inr (5, [.int p1_sights_count, .ref q_p1_sights_before, .ref q_p1_sights_hours, .ref q_p1_sights_after])), (q_p1_sights_before, .inl (G 0, 8, .inl p1_sights_before)), (q_p1_sights_hours, .inl (G 0, 8, .inl p1_sights_hours)), (q_p1_sights_after, .inl (G 0, 8, .inl p1_sights_after))] H := hP
  have hD : va_D A [(q_t, .inr (1, [.int p1_there, .int p1_sat, .int t_hour, .ref q_t_ills, .ref q_t_roomOf, .ref q_t_effects, .ref q_t_badFor, .ref q_t_likes, .ref q_t_sights])), (q_t_ills, .inl (G 0, 18, .inl t_ills)), (q_t_roomOf, .inl (G 0, 6, .inl t_roomOf)), (q_t_effects, .inl (G 0, 12, .inl t_effects)), (q_t_badFor, .inl (G 0, 36, .inl t_badFor)), (q_t_likes, .inl (G 0, 6, .inl t_likes)), (q_t_sights, .inr (5, [.int t_sights_count, .ref q_t_sights_before, .ref q_t_sights_hours, .ref q_t_sights_after])), (q_t_sights_before, .inl (G 0, 8, .inl t_sights_before)), (q_t_sights_hours, .inl (G 0, 8, .inl t_sights_hours)), (q_t_sights_after, .inl (G 0, 8, .inl t_sights_after)), (q_p1, .inr (1, [.int p1_there, .int p1_sat, .int p1_hour, .ref q_p1_ills, .ref q_p1_roomOf, .ref q_p1_effects, .ref q_p1_badFor, .ref q_p1_likes, .ref q_p1_sights])), (q_p1_ills, .inl (G 0, 18, .inl p1_ills)), (q_p1_roomOf, .inl (G 0, 6, .inl p1_roomOf)), (q_p1_effects, .inl (G 0, 12, .inl p1_effects)), (q_p1_badFor, .inl (G 0, 36, .inl p1_badFor)), (q_p1_likes, .inl (G 0, 6, .inl p1_likes)), (q_p1_sights, .inr (5, [.int p1_sights_count, .ref q_p1_sights_before, .ref q_p1_sights_hours, .ref q_p1_sights_after])), (q_p1_sights_before, .inl (G 0, 8, .inl p1_sights_before)), (q_p1_sights_hours, .inl (G 0, 8, .inl p1_sights_hours)), (q_p1_sights_after, .inl (G 0, 8, .inl p1_sights_after))] := hD
  refine lv_aload_n hx hb dX1_takeFrom_16 rfl (lv_at hl 0 rfl) ?_
  refine lv_aload_n hx hb dX1_takeFrom_17 rfl (lv_at hl 1 rfl) ?_
  refine va_get (D := D) (ci := 1) (v := .int p1_hour) (C := RX1) (T := TX1) (N := 9) hx hb hts inX1 hown hK hP 10 rfl rfl 2 (by decide) (hts _ lfX1_41) (fun _ h9 => h9) rfl dX1_takeFrom_18 ?_
  refine va_put (D := D) (ci := 1) (v := .int p1_hour) (ty := .int) (C := RX1) (T := TX1) (N := 9) hx hb hts inX1 tyX1 tyX1_ok nmX1 hown hK hP hD hS 0 rfl rfl 2 (by decide) (hts _ lfX1_41) (fun _ h9 => h9) rfl (tyX1_ok 2 (by decide)) rfl rfl (Nat.le_of_ble_eq_true rfl) dX1_takeFrom_21 (fun H locs hP hD hS => ?_)
  have hP : va_P D vwCl [(q_t, .inr (1, [.int p1_there, .int p1_sat, .int p1_hour, .ref q_t_ills, .ref q_t_roomOf, .ref q_t_effects, .ref q_t_badFor, .ref q_t_likes, .ref q_t_sights])), (q_t_ills, .inl (G 0, 18, .inl t_ills)), (q_t_roomOf, .inl (G 0, 6, .inl t_roomOf)), (q_t_effects, .inl (G 0, 12, .inl t_effects)), (q_t_badFor, .inl (G 0, 36, .inl t_badFor)), (q_t_likes, .inl (G 0, 6, .inl t_likes)), (q_t_sights, .inr (5, [.int t_sights_count, .ref q_t_sights_before, .ref q_t_sights_hours, .ref q_t_sights_after])), (q_t_sights_before, .inl (G 0, 8, .inl t_sights_before)), (q_t_sights_hours, .inl (G 0, 8, .inl t_sights_hours)), (q_t_sights_after, .inl (G 0, 8, .inl t_sights_after)), (q_p1, .inr (1, [.int p1_there, .int p1_sat, .int p1_hour, .ref q_p1_ills, .ref q_p1_roomOf, .ref q_p1_effects, .ref q_p1_badFor, .ref q_p1_likes, .ref q_p1_sights])), (q_p1_ills, .inl (G 0, 18, .inl p1_ills)), (q_p1_roomOf, .inl (G 0, 6, .inl p1_roomOf)), (q_p1_effects, .inl (G 0, 12, .inl p1_effects)), (q_p1_badFor, .inl (G 0, 36, .inl p1_badFor)), (q_p1_likes, .inl (G 0, 6, .inl p1_likes)), (q_p1_sights, .inr (5, [.int p1_sights_count, .ref q_p1_sights_before, .ref q_p1_sights_hours, .ref q_p1_sights_after])), (q_p1_sights_before, .inl (G 0, 8, .inl p1_sights_before)), (q_p1_sights_hours, .inl (G 0, 8, .inl p1_sights_hours)), (q_p1_sights_after, .inl (G 0, 8, .inl p1_sights_after))] H := hP
  have hD : va_D A [(q_t, .inr (1, [.int p1_there, .int p1_sat, .int p1_hour, .ref q_t_ills, .ref q_t_roomOf, .ref q_t_effects, .ref q_t_badFor, .ref q_t_likes, .ref q_t_sights])), (q_t_ills, .inl (G 0, 18, .inl t_ills)), (q_t_roomOf, .inl (G 0, 6, .inl t_roomOf)), (q_t_effects, .inl (G 0, 12, .inl t_effects)), (q_t_badFor, .inl (G 0, 36, .inl t_badFor)), (q_t_likes, .inl (G 0, 6, .inl t_likes)), (q_t_sights, .inr (5, [.int t_sights_count, .ref q_t_sights_before, .ref q_t_sights_hours, .ref q_t_sights_after])), (q_t_sights_before, .inl (G 0, 8, .inl t_sights_before)), (q_t_sights_hours, .inl (G 0, 8, .inl t_sights_hours)), (q_t_sights_after, .inl (G 0, 8, .inl t_sights_after)), (q_p1, .inr (1, [.int p1_there, .int p1_sat, .int p1_hour, .ref q_p1_ills, .ref q_p1_roomOf, .ref q_p1_effects, .ref q_p1_badFor, .ref q_p1_likes, .ref q_p1_sights])), (q_p1_ills, .inl (G 0, 18, .inl p1_ills)), (q_p1_roomOf, .inl (G 0, 6, .inl p1_roomOf)), (q_p1_effects, .inl (G 0, 12, .inl p1_effects)), (q_p1_badFor, .inl (G 0, 36, .inl p1_badFor)), (q_p1_likes, .inl (G 0, 6, .inl p1_likes)), (q_p1_sights, .inr (5, [.int p1_sights_count, .ref q_p1_sights_before, .ref q_p1_sights_hours, .ref q_p1_sights_after])), (q_p1_sights_before, .inl (G 0, 8, .inl p1_sights_before)), (q_p1_sights_hours, .inl (G 0, 8, .inl p1_sights_hours)), (q_p1_sights_after, .inl (G 0, 8, .inl p1_sights_after))] := hD
  refine lv_aload_n hx hb dX1_takeFrom_24 rfl (lv_at hl 1 rfl) ?_
  refine va_get (D := D) (ci := 1) (v := .ref q_p1_ills) (C := RX1) (T := TX1) (N := 9) hx hb hts inX1 hown hK hP 10 rfl rfl 3 (by decide) (hts _ lfX1_9) (fun _ h9 => h9) rfl dX1_takeFrom_25 ?_
  refine lv_iconst (v := (0 : Int32)) hx hb dX1_takeFrom_28 (by decide) ?_
  refine lv_aload_n hx hb dX1_takeFrom_29 rfl (lv_at hl 0 rfl) ?_
  refine va_get (D := D) (ci := 1) (v := .ref q_t_ills) (C := RX1) (T := TX1) (N := 9) hx hb hts inX1 hown hK hP 0 rfl rfl 3 (by decide) (hts _ lfX1_9) (fun _ h9 => h9) rfl dX1_takeFrom_30 ?_
  refine lv_iconst (v := (0 : Int32)) hx hb dX1_takeFrom_33 (by decide) ?_
  refine lv_bipush (v := (18 : Int32)) hx hb dX1_takeFrom_34 (by decide) ?_
  obtain ⟨g1, eg1⟩ : ∃ y : Nat → Int32, y = (va_cpy p1_ills t_ills ((0 : Int32)).toNatClampNeg ((0 : Int32)).toNatClampNeg ((18 : Int32)).toNatClampNeg) := ⟨_, rfl⟩
  have hf := nmeU eg1 hf
  refine va_copyi hx hb (hml.trans hl.1.symm) hown (hts _ lmX1_44) (hts _ kv_arraycopy) (hts _ ks_arraycopy) (hts _ niJ10) hK hP hD hS 11 1 0 0 rfl rfl rfl rfl rfl (by decide) (by decide) (by decide) (by decide) (by decide) (fun _ _ => rfl) (Nat.le_of_ble_eq_true rfl) (Nat.le_of_ble_eq_true rfl) dX1_takeFrom_36 (fun H locs hP hD hS => ?_)
  rw [← eg1] at hP hD
  have hP : va_P D vwCl [(q_t, .inr (1, [.int p1_there, .int p1_sat, .int p1_hour, .ref q_t_ills, .ref q_t_roomOf, .ref q_t_effects, .ref q_t_badFor, .ref q_t_likes, .ref q_t_sights])), (q_t_ills, .inl (G 0, 18, .inl g1)), (q_t_roomOf, .inl (G 0, 6, .inl t_roomOf)), (q_t_effects, .inl (G 0, 12, .inl t_effects)), (q_t_badFor, .inl (G 0, 36, .inl t_badFor)), (q_t_likes, .inl (G 0, 6, .inl t_likes)), (q_t_sights, .inr (5, [.int t_sights_count, .ref q_t_sights_before, .ref q_t_sights_hours, .ref q_t_sights_after])), (q_t_sights_before, .inl (G 0, 8, .inl t_sights_before)), (q_t_sights_hours, .inl (G 0, 8, .inl t_sights_hours)), (q_t_sights_after, .inl (G 0, 8, .inl t_sights_after)), (q_p1, .inr (1, [.int p1_there, .int p1_sat, .int p1_hour, .ref q_p1_ills, .ref q_p1_roomOf, .ref q_p1_effects, .ref q_p1_badFor, .ref q_p1_likes, .ref q_p1_sights])), (q_p1_ills, .inl (G 0, 18, .inl p1_ills)), (q_p1_roomOf, .inl (G 0, 6, .inl p1_roomOf)), (q_p1_effects, .inl (G 0, 12, .inl p1_effects)), (q_p1_badFor, .inl (G 0, 36, .inl p1_badFor)), (q_p1_likes, .inl (G 0, 6, .inl p1_likes)), (q_p1_sights, .inr (5, [.int p1_sights_count, .ref q_p1_sights_before, .ref q_p1_sights_hours, .ref q_p1_sights_after])), (q_p1_sights_before, .inl (G 0, 8, .inl p1_sights_before)), (q_p1_sights_hours, .inl (G 0, 8, .inl p1_sights_hours)), (q_p1_sights_after, .inl (G 0, 8, .inl p1_sights_after))] H := hP
  have hD : va_D A [(q_t, .inr (1, [.int p1_there, .int p1_sat, .int p1_hour, .ref q_t_ills, .ref q_t_roomOf, .ref q_t_effects, .ref q_t_badFor, .ref q_t_likes, .ref q_t_sights])), (q_t_ills, .inl (G 0, 18, .inl g1)), (q_t_roomOf, .inl (G 0, 6, .inl t_roomOf)), (q_t_effects, .inl (G 0, 12, .inl t_effects)), (q_t_badFor, .inl (G 0, 36, .inl t_badFor)), (q_t_likes, .inl (G 0, 6, .inl t_likes)), (q_t_sights, .inr (5, [.int t_sights_count, .ref q_t_sights_before, .ref q_t_sights_hours, .ref q_t_sights_after])), (q_t_sights_before, .inl (G 0, 8, .inl t_sights_before)), (q_t_sights_hours, .inl (G 0, 8, .inl t_sights_hours)), (q_t_sights_after, .inl (G 0, 8, .inl t_sights_after)), (q_p1, .inr (1, [.int p1_there, .int p1_sat, .int p1_hour, .ref q_p1_ills, .ref q_p1_roomOf, .ref q_p1_effects, .ref q_p1_badFor, .ref q_p1_likes, .ref q_p1_sights])), (q_p1_ills, .inl (G 0, 18, .inl p1_ills)), (q_p1_roomOf, .inl (G 0, 6, .inl p1_roomOf)), (q_p1_effects, .inl (G 0, 12, .inl p1_effects)), (q_p1_badFor, .inl (G 0, 36, .inl p1_badFor)), (q_p1_likes, .inl (G 0, 6, .inl p1_likes)), (q_p1_sights, .inr (5, [.int p1_sights_count, .ref q_p1_sights_before, .ref q_p1_sights_hours, .ref q_p1_sights_after])), (q_p1_sights_before, .inl (G 0, 8, .inl p1_sights_before)), (q_p1_sights_hours, .inl (G 0, 8, .inl p1_sights_hours)), (q_p1_sights_after, .inl (G 0, 8, .inl p1_sights_after))] := hD
  refine lv_aload_n hx hb dX1_takeFrom_39 rfl (lv_at hl 1 rfl) ?_
  refine va_get (D := D) (ci := 1) (v := .ref q_p1_roomOf) (C := RX1) (T := TX1) (N := 9) hx hb hts inX1 hown hK hP 10 rfl rfl 4 (by decide) (hts _ lfX1_15) (fun _ h9 => h9) rfl dX1_takeFrom_40 ?_
  refine lv_iconst (v := (0 : Int32)) hx hb dX1_takeFrom_43 (by decide) ?_
  refine lv_aload_n hx hb dX1_takeFrom_44 rfl (lv_at hl 0 rfl) ?_
  refine va_get (D := D) (ci := 1) (v := .ref q_t_roomOf) (C := RX1) (T := TX1) (N := 9) hx hb hts inX1 hown hK hP 0 rfl rfl 4 (by decide) (hts _ lfX1_15) (fun _ h9 => h9) rfl dX1_takeFrom_45 ?_
  refine lv_iconst (v := (0 : Int32)) hx hb dX1_takeFrom_48 (by decide) ?_
  refine lv_bipush (v := (6 : Int32)) hx hb dX1_takeFrom_49 (by decide) ?_
  obtain ⟨g2, eg2⟩ : ∃ y : Nat → Int32, y = (va_cpy p1_roomOf t_roomOf ((0 : Int32)).toNatClampNeg ((0 : Int32)).toNatClampNeg ((6 : Int32)).toNatClampNeg) := ⟨_, rfl⟩
  have hf := nmeU eg2 hf
  refine va_copyi hx hb (hml.trans hl.1.symm) hown (hts _ lmX1_44) (hts _ kv_arraycopy) (hts _ ks_arraycopy) (hts _ niJ10) hK hP hD hS 12 2 0 0 rfl rfl rfl rfl rfl (by decide) (by decide) (by decide) (by decide) (by decide) (fun _ _ => rfl) (Nat.le_of_ble_eq_true rfl) (Nat.le_of_ble_eq_true rfl) dX1_takeFrom_51 (fun H locs hP hD hS => ?_)
  rw [← eg2] at hP hD
  have hP : va_P D vwCl [(q_t, .inr (1, [.int p1_there, .int p1_sat, .int p1_hour, .ref q_t_ills, .ref q_t_roomOf, .ref q_t_effects, .ref q_t_badFor, .ref q_t_likes, .ref q_t_sights])), (q_t_ills, .inl (G 0, 18, .inl g1)), (q_t_roomOf, .inl (G 0, 6, .inl g2)), (q_t_effects, .inl (G 0, 12, .inl t_effects)), (q_t_badFor, .inl (G 0, 36, .inl t_badFor)), (q_t_likes, .inl (G 0, 6, .inl t_likes)), (q_t_sights, .inr (5, [.int t_sights_count, .ref q_t_sights_before, .ref q_t_sights_hours, .ref q_t_sights_after])), (q_t_sights_before, .inl (G 0, 8, .inl t_sights_before)), (q_t_sights_hours, .inl (G 0, 8, .inl t_sights_hours)), (q_t_sights_after, .inl (G 0, 8, .inl t_sights_after)), (q_p1, .inr (1, [.int p1_there, .int p1_sat, .int p1_hour, .ref q_p1_ills, .ref q_p1_roomOf, .ref q_p1_effects, .ref q_p1_badFor, .ref q_p1_likes, .ref q_p1_sights])), (q_p1_ills, .inl (G 0, 18, .inl p1_ills)), (q_p1_roomOf, .inl (G 0, 6, .inl p1_roomOf)), (q_p1_effects, .inl (G 0, 12, .inl p1_effects)), (q_p1_badFor, .inl (G 0, 36, .inl p1_badFor)), (q_p1_likes, .inl (G 0, 6, .inl p1_likes)), (q_p1_sights, .inr (5, [.int p1_sights_count, .ref q_p1_sights_before, .ref q_p1_sights_hours, .ref q_p1_sights_after])), (q_p1_sights_before, .inl (G 0, 8, .inl p1_sights_before)), (q_p1_sights_hours, .inl (G 0, 8, .inl p1_sights_hours)), (q_p1_sights_after, .inl (G 0, 8, .inl p1_sights_after))] H := hP
  have hD : va_D A [(q_t, .inr (1, [.int p1_there, .int p1_sat, .int p1_hour, .ref q_t_ills, .ref q_t_roomOf, .ref q_t_effects, .ref q_t_badFor, .ref q_t_likes, .ref q_t_sights])), (q_t_ills, .inl (G 0, 18, .inl g1)), (q_t_roomOf, .inl (G 0, 6, .inl g2)), (q_t_effects, .inl (G 0, 12, .inl t_effects)), (q_t_badFor, .inl (G 0, 36, .inl t_badFor)), (q_t_likes, .inl (G 0, 6, .inl t_likes)), (q_t_sights, .inr (5, [.int t_sights_count, .ref q_t_sights_before, .ref q_t_sights_hours, .ref q_t_sights_after])), (q_t_sights_before, .inl (G 0, 8, .inl t_sights_before)), (q_t_sights_hours, .inl (G 0, 8, .inl t_sights_hours)), (q_t_sights_after, .inl (G 0, 8, .inl t_sights_after)), (q_p1, .inr (1, [.int p1_there, .int p1_sat, .int p1_hour, .ref q_p1_ills, .ref q_p1_roomOf, .ref q_p1_effects, .ref q_p1_badFor, .ref q_p1_likes, .ref q_p1_sights])), (q_p1_ills, .inl (G 0, 18, .inl p1_ills)), (q_p1_roomOf, .inl (G 0, 6, .inl p1_roomOf)), (q_p1_effects, .inl (G 0, 12, .inl p1_effects)), (q_p1_badFor, .inl (G 0, 36, .inl p1_badFor)), (q_p1_likes, .inl (G 0, 6, .inl p1_likes)), (q_p1_sights, .inr (5, [.int p1_sights_count, .ref q_p1_sights_before, .ref q_p1_sights_hours, .ref q_p1_sights_after])), (q_p1_sights_before, .inl (G 0, 8, .inl p1_sights_before)), (q_p1_sights_hours, .inl (G 0, 8, .inl p1_sights_hours)), (q_p1_sights_after, .inl (G 0, 8, .inl p1_sights_after))] := hD
  refine lv_aload_n hx hb dX1_takeFrom_54 rfl (lv_at hl 1 rfl) ?_
  refine va_get (D := D) (ci := 1) (v := .ref q_p1_effects) (C := RX1) (T := TX1) (N := 9) hx hb hts inX1 hown hK hP 10 rfl rfl 5 (by decide) (hts _ lfX1_18) (fun _ h9 => h9) rfl dX1_takeFrom_55 ?_
  refine lv_iconst (v := (0 : Int32)) hx hb dX1_takeFrom_58 (by decide) ?_
  refine lv_aload_n hx hb dX1_takeFrom_59 rfl (lv_at hl 0 rfl) ?_
  refine va_get (D := D) (ci := 1) (v := .ref q_t_effects) (C := RX1) (T := TX1) (N := 9) hx hb hts inX1 hown hK hP 0 rfl rfl 5 (by decide) (hts _ lfX1_18) (fun _ h9 => h9) rfl dX1_takeFrom_60 ?_
  refine lv_iconst (v := (0 : Int32)) hx hb dX1_takeFrom_63 (by decide) ?_
  refine lv_bipush (v := (12 : Int32)) hx hb dX1_takeFrom_64 (by decide) ?_
  obtain ⟨g3, eg3⟩ : ∃ y : Nat → Int32, y = (va_cpy p1_effects t_effects ((0 : Int32)).toNatClampNeg ((0 : Int32)).toNatClampNeg ((12 : Int32)).toNatClampNeg) := ⟨_, rfl⟩
  have hf := nmeU eg3 hf
  refine va_copyi hx hb (hml.trans hl.1.symm) hown (hts _ lmX1_44) (hts _ kv_arraycopy) (hts _ ks_arraycopy) (hts _ niJ10) hK hP hD hS 13 3 0 0 rfl rfl rfl rfl rfl (by decide) (by decide) (by decide) (by decide) (by decide) (fun _ _ => rfl) (Nat.le_of_ble_eq_true rfl) (Nat.le_of_ble_eq_true rfl) dX1_takeFrom_66 (fun H locs hP hD hS => ?_)
  rw [← eg3] at hP hD
  have hP : va_P D vwCl [(q_t, .inr (1, [.int p1_there, .int p1_sat, .int p1_hour, .ref q_t_ills, .ref q_t_roomOf, .ref q_t_effects, .ref q_t_badFor, .ref q_t_likes, .ref q_t_sights])), (q_t_ills, .inl (G 0, 18, .inl g1)), (q_t_roomOf, .inl (G 0, 6, .inl g2)), (q_t_effects, .inl (G 0, 12, .inl g3)), (q_t_badFor, .inl (G 0, 36, .inl t_badFor)), (q_t_likes, .inl (G 0, 6, .inl t_likes)), (q_t_sights, .inr (5, [.int t_sights_count, .ref q_t_sights_before, .ref q_t_sights_hours, .ref q_t_sights_after])), (q_t_sights_before, .inl (G 0, 8, .inl t_sights_before)), (q_t_sights_hours, .inl (G 0, 8, .inl t_sights_hours)), (q_t_sights_after, .inl (G 0, 8, .inl t_sights_after)), (q_p1, .inr (1, [.int p1_there, .int p1_sat, .int p1_hour, .ref q_p1_ills, .ref q_p1_roomOf, .ref q_p1_effects, .ref q_p1_badFor, .ref q_p1_likes, .ref q_p1_sights])), (q_p1_ills, .inl (G 0, 18, .inl p1_ills)), (q_p1_roomOf, .inl (G 0, 6, .inl p1_roomOf)), (q_p1_effects, .inl (G 0, 12, .inl p1_effects)), (q_p1_badFor, .inl (G 0, 36, .inl p1_badFor)), (q_p1_likes, .inl (G 0, 6, .inl p1_likes)), (q_p1_sights, .inr (5, [.int p1_sights_count, .ref q_p1_sights_before, .ref q_p1_sights_hours, .ref q_p1_sights_after])), (q_p1_sights_before, .inl (G 0, 8, .inl p1_sights_before)), (q_p1_sights_hours, .inl (G 0, 8, .inl p1_sights_hours)), (q_p1_sights_after, .inl (G 0, 8, .inl p1_sights_after))] H := hP
  have hD : va_D A [(q_t, .inr (1, [.int p1_there, .int p1_sat, .int p1_hour, .ref q_t_ills, .ref q_t_roomOf, .ref q_t_effects, .ref q_t_badFor, .ref q_t_likes, .ref q_t_sights])), (q_t_ills, .inl (G 0, 18, .inl g1)), (q_t_roomOf, .inl (G 0, 6, .inl g2)), (q_t_effects, .inl (G 0, 12, .inl g3)), (q_t_badFor, .inl (G 0, 36, .inl t_badFor)), (q_t_likes, .inl (G 0, 6, .inl t_likes)), (q_t_sights, .inr (5, [.int t_sights_count, .ref q_t_sights_before, .ref q_t_sights_hours, .ref q_t_sights_after])), (q_t_sights_before, .inl (G 0, 8, .inl t_sights_before)), (q_t_sights_hours, .inl (G 0, 8, .inl t_sights_hours)), (q_t_sights_after, .inl (G 0, 8, .inl t_sights_after)), (q_p1, .inr (1, [.int p1_there, .int p1_sat, .int p1_hour, .ref q_p1_ills, .ref q_p1_roomOf, .ref q_p1_effects, .ref q_p1_badFor, .ref q_p1_likes, .ref q_p1_sights])), (q_p1_ills, .inl (G 0, 18, .inl p1_ills)), (q_p1_roomOf, .inl (G 0, 6, .inl p1_roomOf)), (q_p1_effects, .inl (G 0, 12, .inl p1_effects)), (q_p1_badFor, .inl (G 0, 36, .inl p1_badFor)), (q_p1_likes, .inl (G 0, 6, .inl p1_likes)), (q_p1_sights, .inr (5, [.int p1_sights_count, .ref q_p1_sights_before, .ref q_p1_sights_hours, .ref q_p1_sights_after])), (q_p1_sights_before, .inl (G 0, 8, .inl p1_sights_before)), (q_p1_sights_hours, .inl (G 0, 8, .inl p1_sights_hours)), (q_p1_sights_after, .inl (G 0, 8, .inl p1_sights_after))] := hD
  refine lv_aload_n hx hb dX1_takeFrom_69 rfl (lv_at hl 1 rfl) ?_
  refine va_get (D := D) (ci := 1) (v := .ref q_p1_badFor) (C := RX1) (T := TX1) (N := 9) hx hb hts inX1 hown hK hP 10 rfl rfl 6 (by decide) (hts _ lfX1_21) (fun _ h9 => h9) rfl dX1_takeFrom_70 ?_
  refine lv_iconst (v := (0 : Int32)) hx hb dX1_takeFrom_73 (by decide) ?_
  refine lv_aload_n hx hb dX1_takeFrom_74 rfl (lv_at hl 0 rfl) ?_
  refine va_get (D := D) (ci := 1) (v := .ref q_t_badFor) (C := RX1) (T := TX1) (N := 9) hx hb hts inX1 hown hK hP 0 rfl rfl 6 (by decide) (hts _ lfX1_21) (fun _ h9 => h9) rfl dX1_takeFrom_75 ?_
  refine lv_iconst (v := (0 : Int32)) hx hb dX1_takeFrom_78 (by decide) ?_
  refine lv_bipush (v := (36 : Int32)) hx hb dX1_takeFrom_79 (by decide) ?_
  obtain ⟨g4, eg4⟩ : ∃ y : Nat → Int32, y = (va_cpy p1_badFor t_badFor ((0 : Int32)).toNatClampNeg ((0 : Int32)).toNatClampNeg ((36 : Int32)).toNatClampNeg) := ⟨_, rfl⟩
  have hf := nmeU eg4 hf
  refine va_copyi hx hb (hml.trans hl.1.symm) hown (hts _ lmX1_44) (hts _ kv_arraycopy) (hts _ ks_arraycopy) (hts _ niJ10) hK hP hD hS 14 4 0 0 rfl rfl rfl rfl rfl (by decide) (by decide) (by decide) (by decide) (by decide) (fun _ _ => rfl) (Nat.le_of_ble_eq_true rfl) (Nat.le_of_ble_eq_true rfl) dX1_takeFrom_81 (fun H locs hP hD hS => ?_)
  rw [← eg4] at hP hD
  have hP : va_P D vwCl [(q_t, .inr (1, [.int p1_there, .int p1_sat, .int p1_hour, .ref q_t_ills, .ref q_t_roomOf, .ref q_t_effects, .ref q_t_badFor, .ref q_t_likes, .ref q_t_sights])), (q_t_ills, .inl (G 0, 18, .inl g1)), (q_t_roomOf, .inl (G 0, 6, .inl g2)), (q_t_effects, .inl (G 0, 12, .inl g3)), (q_t_badFor, .inl (G 0, 36, .inl g4)), (q_t_likes, .inl (G 0, 6, .inl t_likes)), (q_t_sights, .inr (5, [.int t_sights_count, .ref q_t_sights_before, .ref q_t_sights_hours, .ref q_t_sights_after])), (q_t_sights_before, .inl (G 0, 8, .inl t_sights_before)), (q_t_sights_hours, .inl (G 0, 8, .inl t_sights_hours)), (q_t_sights_after, .inl (G 0, 8, .inl t_sights_after)), (q_p1, .inr (1, [.int p1_there, .int p1_sat, .int p1_hour, .ref q_p1_ills, .ref q_p1_roomOf, .ref q_p1_effects, .ref q_p1_badFor, .ref q_p1_likes, .ref q_p1_sights])), (q_p1_ills, .inl (G 0, 18, .inl p1_ills)), (q_p1_roomOf, .inl (G 0, 6, .inl p1_roomOf)), (q_p1_effects, .inl (G 0, 12, .inl p1_effects)), (q_p1_badFor, .inl (G 0, 36, .inl p1_badFor)), (q_p1_likes, .inl (G 0, 6, .inl p1_likes)), (q_p1_sights, .inr (5, [.int p1_sights_count, .ref q_p1_sights_before, .ref q_p1_sights_hours, .ref q_p1_sights_after])), (q_p1_sights_before, .inl (G 0, 8, .inl p1_sights_before)), (q_p1_sights_hours, .inl (G 0, 8, .inl p1_sights_hours)), (q_p1_sights_after, .inl (G 0, 8, .inl p1_sights_after))] H := hP
  have hD : va_D A [(q_t, .inr (1, [.int p1_there, .int p1_sat, .int p1_hour, .ref q_t_ills, .ref q_t_roomOf, .ref q_t_effects, .ref q_t_badFor, .ref q_t_likes, .ref q_t_sights])), (q_t_ills, .inl (G 0, 18, .inl g1)), (q_t_roomOf, .inl (G 0, 6, .inl g2)), (q_t_effects, .inl (G 0, 12, .inl g3)), (q_t_badFor, .inl (G 0, 36, .inl g4)), (q_t_likes, .inl (G 0, 6, .inl t_likes)), (q_t_sights, .inr (5, [.int t_sights_count, .ref q_t_sights_before, .ref q_t_sights_hours, .ref q_t_sights_after])), (q_t_sights_before, .inl (G 0, 8, .inl t_sights_before)), (q_t_sights_hours, .inl (G 0, 8, .inl t_sights_hours)), (q_t_sights_after, .inl (G 0, 8, .inl t_sights_after)), (q_p1, .inr (1, [.int p1_there, .int p1_sat, .int p1_hour, .ref q_p1_ills, .ref q_p1_roomOf, .ref q_p1_effects, .ref q_p1_badFor, .ref q_p1_likes, .ref q_p1_sights])), (q_p1_ills, .inl (G 0, 18, .inl p1_ills)), (q_p1_roomOf, .inl (G 0, 6, .inl p1_roomOf)), (q_p1_effects, .inl (G 0, 12, .inl p1_effects)), (q_p1_badFor, .inl (G 0, 36, .inl p1_badFor)), (q_p1_likes, .inl (G 0, 6, .inl p1_likes)), (q_p1_sights, .inr (5, [.int p1_sights_count, .ref q_p1_sights_before, .ref q_p1_sights_hours, .ref q_p1_sights_after])), (q_p1_sights_before, .inl (G 0, 8, .inl p1_sights_before)), (q_p1_sights_hours, .inl (G 0, 8, .inl p1_sights_hours)), (q_p1_sights_after, .inl (G 0, 8, .inl p1_sights_after))] := hD
  refine lv_aload_n hx hb dX1_takeFrom_84 rfl (lv_at hl 1 rfl) ?_
  refine va_get (D := D) (ci := 1) (v := .ref q_p1_likes) (C := RX1) (T := TX1) (N := 9) hx hb hts inX1 hown hK hP 10 rfl rfl 7 (by decide) (hts _ lfX1_24) (fun _ h9 => h9) rfl dX1_takeFrom_85 ?_
  refine lv_iconst (v := (0 : Int32)) hx hb dX1_takeFrom_88 (by decide) ?_
  refine lv_aload_n hx hb dX1_takeFrom_89 rfl (lv_at hl 0 rfl) ?_
  refine va_get (D := D) (ci := 1) (v := .ref q_t_likes) (C := RX1) (T := TX1) (N := 9) hx hb hts inX1 hown hK hP 0 rfl rfl 7 (by decide) (hts _ lfX1_24) (fun _ h9 => h9) rfl dX1_takeFrom_90 ?_
  refine lv_iconst (v := (0 : Int32)) hx hb dX1_takeFrom_93 (by decide) ?_
  refine lv_bipush (v := (6 : Int32)) hx hb dX1_takeFrom_94 (by decide) ?_
  obtain ⟨g5, eg5⟩ : ∃ y : Nat → Int32, y = (va_cpy p1_likes t_likes ((0 : Int32)).toNatClampNeg ((0 : Int32)).toNatClampNeg ((6 : Int32)).toNatClampNeg) := ⟨_, rfl⟩
  have hf := nmeU eg5 hf
  refine va_copyi hx hb (hml.trans hl.1.symm) hown (hts _ lmX1_44) (hts _ kv_arraycopy) (hts _ ks_arraycopy) (hts _ niJ10) hK hP hD hS 15 5 0 0 rfl rfl rfl rfl rfl (by decide) (by decide) (by decide) (by decide) (by decide) (fun _ _ => rfl) (Nat.le_of_ble_eq_true rfl) (Nat.le_of_ble_eq_true rfl) dX1_takeFrom_96 (fun H locs hP hD hS => ?_)
  rw [← eg5] at hP hD
  have hP : va_P D vwCl [(q_t, .inr (1, [.int p1_there, .int p1_sat, .int p1_hour, .ref q_t_ills, .ref q_t_roomOf, .ref q_t_effects, .ref q_t_badFor, .ref q_t_likes, .ref q_t_sights])), (q_t_ills, .inl (G 0, 18, .inl g1)), (q_t_roomOf, .inl (G 0, 6, .inl g2)), (q_t_effects, .inl (G 0, 12, .inl g3)), (q_t_badFor, .inl (G 0, 36, .inl g4)), (q_t_likes, .inl (G 0, 6, .inl g5)), (q_t_sights, .inr (5, [.int t_sights_count, .ref q_t_sights_before, .ref q_t_sights_hours, .ref q_t_sights_after])), (q_t_sights_before, .inl (G 0, 8, .inl t_sights_before)), (q_t_sights_hours, .inl (G 0, 8, .inl t_sights_hours)), (q_t_sights_after, .inl (G 0, 8, .inl t_sights_after)), (q_p1, .inr (1, [.int p1_there, .int p1_sat, .int p1_hour, .ref q_p1_ills, .ref q_p1_roomOf, .ref q_p1_effects, .ref q_p1_badFor, .ref q_p1_likes, .ref q_p1_sights])), (q_p1_ills, .inl (G 0, 18, .inl p1_ills)), (q_p1_roomOf, .inl (G 0, 6, .inl p1_roomOf)), (q_p1_effects, .inl (G 0, 12, .inl p1_effects)), (q_p1_badFor, .inl (G 0, 36, .inl p1_badFor)), (q_p1_likes, .inl (G 0, 6, .inl p1_likes)), (q_p1_sights, .inr (5, [.int p1_sights_count, .ref q_p1_sights_before, .ref q_p1_sights_hours, .ref q_p1_sights_after])), (q_p1_sights_before, .inl (G 0, 8, .inl p1_sights_before)), (q_p1_sights_hours, .inl (G 0, 8, .inl p1_sights_hours)), (q_p1_sights_after, .inl (G 0, 8, .inl p1_sights_after))] H := hP
  have hD : va_D A [(q_t, .inr (1, [.int p1_there, .int p1_sat, .int p1_hour, .ref q_t_ills, .ref q_t_roomOf, .ref q_t_effects, .ref q_t_badFor, .ref q_t_likes, .ref q_t_sights])), (q_t_ills, .inl (G 0, 18, .inl g1)), (q_t_roomOf, .inl (G 0, 6, .inl g2)), (q_t_effects, .inl (G 0, 12, .inl g3)), (q_t_badFor, .inl (G 0, 36, .inl g4)), (q_t_likes, .inl (G 0, 6, .inl g5)), (q_t_sights, .inr (5, [.int t_sights_count, .ref q_t_sights_before, .ref q_t_sights_hours, .ref q_t_sights_after])), (q_t_sights_before, .inl (G 0, 8, .inl t_sights_before)), (q_t_sights_hours, .inl (G 0, 8, .inl t_sights_hours)), (q_t_sights_after, .inl (G 0, 8, .inl t_sights_after)), (q_p1, .inr (1, [.int p1_there, .int p1_sat, .int p1_hour, .ref q_p1_ills, .ref q_p1_roomOf, .ref q_p1_effects, .ref q_p1_badFor, .ref q_p1_likes, .ref q_p1_sights])), (q_p1_ills, .inl (G 0, 18, .inl p1_ills)), (q_p1_roomOf, .inl (G 0, 6, .inl p1_roomOf)), (q_p1_effects, .inl (G 0, 12, .inl p1_effects)), (q_p1_badFor, .inl (G 0, 36, .inl p1_badFor)), (q_p1_likes, .inl (G 0, 6, .inl p1_likes)), (q_p1_sights, .inr (5, [.int p1_sights_count, .ref q_p1_sights_before, .ref q_p1_sights_hours, .ref q_p1_sights_after])), (q_p1_sights_before, .inl (G 0, 8, .inl p1_sights_before)), (q_p1_sights_hours, .inl (G 0, 8, .inl p1_sights_hours)), (q_p1_sights_after, .inl (G 0, 8, .inl p1_sights_after))] := hD
  refine lv_aload_n hx hb dX1_takeFrom_99 rfl (lv_at hl 0 rfl) ?_
  refine va_get (D := D) (ci := 1) (v := .ref q_t_sights) (C := RX1) (T := TX1) (N := 9) hx hb hts inX1 hown hK hP 0 rfl rfl 8 (by decide) (hts _ lfX1_30) (fun _ h9 => h9) rfl dX1_takeFrom_100 ?_
  refine lv_aload_n hx hb dX1_takeFrom_103 rfl (lv_at hl 1 rfl) ?_
  refine va_get (D := D) (ci := 1) (v := .ref q_p1_sights) (C := RX1) (T := TX1) (N := 9) hx hb hts inX1 hown hK hP 10 rfl rfl 8 (by decide) (hts _ lfX1_30) (fun _ h9 => h9) rfl dX1_takeFrom_104 ?_
  obtain ⟨o6, o7, o8, o9, h10, hf⟩ := bd4E hf
  refine kW_virt0 hx hb hml hown hts hK hn hA hP hD hS (kX5_copyFrom l D G q_t_sights q_p1_sights q_t_sights_before q_t_sights_hours q_t_sights_after q_p1_sights_before q_p1_sights_hours q_p1_sights_after t_sights_count t_sights_before t_sights_hours t_sights_after p1_sights_count p1_sights_before p1_sights_hours p1_sights_after h10) cvX1_50 ⟨Nat.le_of_ble_eq_true rfl, Nat.le_of_ble_eq_true rfl⟩ [6, 7, 8, 9, 16, 17, 18, 19] rfl rfl [false, false, false, false, false, false, true, true, true, true, false, false, false, false, false, false, true, true, true, true] rfl (w3 := [(q_t_sights, .inr (5, [.int o6, .ref q_t_sights_before, .ref q_t_sights_hours, .ref q_t_sights_after])), (q_t_sights_before, .inl (G 0, 8, .inl o7)), (q_t_sights_hours, .inl (G 0, 8, .inl o8)), (q_t_sights_after, .inl (G 0, 8, .inl o9)), (q_p1_sights, .inr (5, [.int p1_sights_count, .ref q_p1_sights_before, .ref q_p1_sights_hours, .ref q_p1_sights_after])), (q_p1_sights_before, .inl (G 0, 8, .inl p1_sights_before)), (q_p1_sights_hours, .inl (G 0, 8, .inl p1_sights_hours)), (q_p1_sights_after, .inl (G 0, 8, .inl p1_sights_after))]) [0, 1, 2, 3, 4, 5, 6, 7] rfl rfl 6 rfl rfl rfl hl.1 rfl (Nat.le_of_ble_eq_true rfl) ⟨Nat.zero_le _, Nat.zero_le _⟩ dX1_takeFrom_107 (fun H locs hP hD hS => ?_)
  have hP : va_P D vwCl [(q_t, .inr (1, [.int p1_there, .int p1_sat, .int p1_hour, .ref q_t_ills, .ref q_t_roomOf, .ref q_t_effects, .ref q_t_badFor, .ref q_t_likes, .ref q_t_sights])), (q_t_ills, .inl (G 0, 18, .inl g1)), (q_t_roomOf, .inl (G 0, 6, .inl g2)), (q_t_effects, .inl (G 0, 12, .inl g3)), (q_t_badFor, .inl (G 0, 36, .inl g4)), (q_t_likes, .inl (G 0, 6, .inl g5)), (q_t_sights, .inr (5, [.int o6, .ref q_t_sights_before, .ref q_t_sights_hours, .ref q_t_sights_after])), (q_t_sights_before, .inl (G 0, 8, .inl o7)), (q_t_sights_hours, .inl (G 0, 8, .inl o8)), (q_t_sights_after, .inl (G 0, 8, .inl o9)), (q_p1, .inr (1, [.int p1_there, .int p1_sat, .int p1_hour, .ref q_p1_ills, .ref q_p1_roomOf, .ref q_p1_effects, .ref q_p1_badFor, .ref q_p1_likes, .ref q_p1_sights])), (q_p1_ills, .inl (G 0, 18, .inl p1_ills)), (q_p1_roomOf, .inl (G 0, 6, .inl p1_roomOf)), (q_p1_effects, .inl (G 0, 12, .inl p1_effects)), (q_p1_badFor, .inl (G 0, 36, .inl p1_badFor)), (q_p1_likes, .inl (G 0, 6, .inl p1_likes)), (q_p1_sights, .inr (5, [.int p1_sights_count, .ref q_p1_sights_before, .ref q_p1_sights_hours, .ref q_p1_sights_after])), (q_p1_sights_before, .inl (G 0, 8, .inl p1_sights_before)), (q_p1_sights_hours, .inl (G 0, 8, .inl p1_sights_hours)), (q_p1_sights_after, .inl (G 0, 8, .inl p1_sights_after))] H := hP
  have hD : va_D A [(q_t, .inr (1, [.int p1_there, .int p1_sat, .int p1_hour, .ref q_t_ills, .ref q_t_roomOf, .ref q_t_effects, .ref q_t_badFor, .ref q_t_likes, .ref q_t_sights])), (q_t_ills, .inl (G 0, 18, .inl g1)), (q_t_roomOf, .inl (G 0, 6, .inl g2)), (q_t_effects, .inl (G 0, 12, .inl g3)), (q_t_badFor, .inl (G 0, 36, .inl g4)), (q_t_likes, .inl (G 0, 6, .inl g5)), (q_t_sights, .inr (5, [.int o6, .ref q_t_sights_before, .ref q_t_sights_hours, .ref q_t_sights_after])), (q_t_sights_before, .inl (G 0, 8, .inl o7)), (q_t_sights_hours, .inl (G 0, 8, .inl o8)), (q_t_sights_after, .inl (G 0, 8, .inl o9)), (q_p1, .inr (1, [.int p1_there, .int p1_sat, .int p1_hour, .ref q_p1_ills, .ref q_p1_roomOf, .ref q_p1_effects, .ref q_p1_badFor, .ref q_p1_likes, .ref q_p1_sights])), (q_p1_ills, .inl (G 0, 18, .inl p1_ills)), (q_p1_roomOf, .inl (G 0, 6, .inl p1_roomOf)), (q_p1_effects, .inl (G 0, 12, .inl p1_effects)), (q_p1_badFor, .inl (G 0, 36, .inl p1_badFor)), (q_p1_likes, .inl (G 0, 6, .inl p1_likes)), (q_p1_sights, .inr (5, [.int p1_sights_count, .ref q_p1_sights_before, .ref q_p1_sights_hours, .ref q_p1_sights_after])), (q_p1_sights_before, .inl (G 0, 8, .inl p1_sights_before)), (q_p1_sights_hours, .inl (G 0, 8, .inl p1_sights_hours)), (q_p1_sights_after, .inl (G 0, 8, .inl p1_sights_after))] := hD
  exact RT _ _ _ _ _ _ _ _ _ _ _ _ hf _ _ _ H locs dX1_takeFrom_110 rkV hP hD hS
set_option maxHeartbeats 4000000 in
set_option maxRecDepth 100000 in
theorem kX1_tellOf (l : Launch) (D : va_G) (G : Nat → ClassId) (q_t q_t_ills q_t_roomOf q_t_effects q_t_badFor q_t_likes q_t_sights : Nat) (t_there : Int32) (t_sat : Int32) (t_hour : Int32) (t_ills : Nat → Int32) (t_roomOf : Nat → Int32) (v1 : Int32) (v2 : Int32) {r : Int32} (hf : fX1_tellOf t_ills t_roomOf v1 v2 = some r) : rO l D G yX1_tellOf cX1_tellOf 3 (some .int) 2 82 [.ref q_t, .int v1, .int v2] [(q_t, .inr (1, [.int t_there, .int t_sat, .int t_hour, .ref q_t_ills, .ref q_t_roomOf, .ref q_t_effects, .ref q_t_badFor, .ref q_t_likes, .ref q_t_sights])), (q_t_ills, .inl (G 0, 18, .inl t_ills)), (q_t_roomOf, .inl (G 0, 6, .inl t_roomOf))] (some (.int r)) := by
  refine rO_of (by decide) (Nat.le_of_ble_eq_true rfl) ?_
  intro p e s m args below meth c Q hx hb hml hown hts hK hn hP RET ls hl
  have RT : ∀ (a0_ : Int32), some a0_ = some r → ∀ (pc : Nat) (ls : Array Slot) (ins : Instr), decode cX1_tellOf pc = .ok (ins, 1) → rk (some .int) (some (.int a0_)) ins → W p l e (kR 2 82) s m args below meth c s.heap [] 0 0 Q (F0 m pc ls [.int a0_]) := by
    intro a0_ hy; obtain rfl := sm1 hy
    exact RET
  have hown : s.vm.findClass RX1 = some m.cls := hown
  have hl : lv_has ls 3 [(0, .ref q_t), (1, .int v1), (2, .int v2)] := hl
  clear RET
  rw [fX1_tellOf] at hf
  refine lv_iload_n hx hb dX1_tellOf_0 rfl (lv_at hl 2 rfl) ?_
  refine lv_iconst (v := (3 : Int32)) hx hb dX1_tellOf_1 (by decide) ?_
  refine lv_icmp_ge (tgt := 14) hx hb dX1_tellOf_2 (by decide) (fun c1 => ?_) (fun c1 => ?_)
  · have hf := ifp c1 hf
    refine lv_aload_n hx hb dX1_tellOf_14 rfl (lv_at hl 0 rfl) ?_
    refine va_get (D := D) (ci := 1) (v := .ref q_t_roomOf) (C := RX1) (T := TX1) (N := 9) hx hb hts inX1 hown hK hP 0 rfl rfl 4 (by decide) (hts _ lfX1_15) (fun _ h9 => h9) rfl dX1_tellOf_15 ?_
    refine lv_iload_n hx hb dX1_tellOf_18 rfl (lv_at hl 1 rfl) ?_
    obtain ⟨x2, ex2, ix2, hf⟩ := ldIE hf
    refine k_iald hx hb hK hP 2 0 rfl rfl ix2 ex2 dX1_tellOf_19 ?_
    exact RT _ hf _ _ _ dX1_tellOf_20 (rkI _)
  · have hf := ifn c1 hf
    refine lv_aload_n hx hb dX1_tellOf_5 rfl (lv_at hl 0 rfl) ?_
    refine lv_iload_n hx hb dX1_tellOf_6 rfl (lv_at hl 1 rfl) ?_
    refine lv_iload_n hx hb dX1_tellOf_7 rfl (lv_at hl 2 rfl) ?_
    obtain ⟨r3, h4, hf⟩ := bd1E hf
    refine kO_virt hx hb hml hown hts hK hn hP (kX1_illOf l D G q_t q_t_ills q_t_roomOf q_t_effects q_t_badFor q_t_likes q_t_sights t_there t_sat t_hour t_ills v1 v2 h4) cvX1_54 ⟨Nat.le_of_ble_eq_true rfl, Nat.le_of_ble_eq_true rfl⟩ [0, 1] rfl 0 rfl rfl rfl hl.1 rfl (Nat.le_of_ble_eq_true rfl) ⟨Nat.zero_le _, Nat.zero_le _⟩ dX1_tellOf_8 ?_
    refine lv_goto (tgt := 20) hx hb dX1_tellOf_11 (by decide) ?_
    exact RT _ hf _ _ _ dX1_tellOf_20 (rkI _)
