theorem kB_in : GoodIn kB kB := fun w h => ⟨h, good_of_word (List.mem_filter.mp h).2⟩
theorem kB_cons {y : MethodName} {b : ByteArray} {n : Nat} {r : Option FieldType} (h : Cond.code y b n r ∈ kB) : GoodIn kB (Cond.code y b n r :: kB) := fun w hw => (List.mem_cons.mp hw).elim (fun e => e ▸ kB_in _ h) (kB_in w)
/-- links to nest mates -/
def nfw : List Cond := [.methodLinkNest RX7 11 yX1_init RX7, .methodLinkNest RX1 29 yX5_init RX7, .methodLinkNest RX7 22 yX2_init RX7, .methodLinkNest RX7 29 yX6_init RX7, .methodLinkNest RX6 11 yX1_init RX7, .methodLinkNest RX7 36 yX3_init RX7, .methodLinkNest RX7 43 yX4_init RX7, .methodLinkNest RX7 50 yX0_init RX7, .methodLinkNest RX2 23 yX7_isAmong RX7, .methodLinkNest RX1 80 yX7_withinIll RX7, .methodLinkNest RX1 83 yX7_hoursUntilGone RX7, .methodLinkNest RX5 43 yX7_withinIll RX7, .methodLinkNest RX0 51 yX7_withinIll RX7]
def nf (U : State) : Prop := ∀ w ∈ nfw, va_Nw w U
theorem nfw_on : ∀ w ∈ nfw, w.onTables = true := by decide +kernel
theorem nf.same {u U : State} (h : u.vm = U.vm) (hZ : nf u) : nf U := fun w hw => va_Nw.same (nfw_on w hw) h (hZ w hw)
theorem nf.warm {s U : State} (hW : s.WarmedH U.vm) (h : nf s) : nf U := by
  intro w hw
  have h1 := h w hw
  simp only [nfw, List.mem_cons, List.not_mem_nil, or_false] at hw
  rcases hw with rfl | rfl | rfl | rfl | rfl | rfl | rfl | rfl | rfl | rfl | rfl | rfl | rfl <;> exact va_Nw.warmM hW h1
/-- the array types that are there -/
abbrev kT (G : Nat → ClassId) : List (ClassId × FieldType) := [(G 0, .int), (G 1, .long), (G 2, .boolean), (G 3, .object RX1)]
abbrev kR (fr lo : Nat) : Room := { frames := fr, cells := 0, slots := 0, locals := lo }
/-- a contract of a method that changes no cell: from the world w it answers o -/
def rO (l : Launch) (D : va_G) (G : Nat → ClassId) (y : MethodName) (bytes : ByteArray) (maxL : Nat) (ret : Option FieldType) (fr lo : Nat) (av : List Value) (w : va_W) (o : Option Value) : Prop :=
  Met l y (.code y bytes maxL ret :: kB) (kR fr lo) (va_Pc av (fun U => va_P D vwCl w U.heap ∧ va_K D vwCl (kT G) U ∧ nf U)) (fun _ st oc t => oc = .returned o ∧ t.heap = st.heap) 0 0 (fun _ => False)
/-- a contract of a method that turns the world w into w2, and answers o -/
def rW (l : Launch) (D : va_G) (G : Nat → ClassId) (y : MethodName) (bytes : ByteArray) (maxL : Nat) (ret : Option FieldType) (fr lo : Nat) (av : List Value) (w w2 : va_W) (o : Option Value) : Prop :=
  ∀ sz : Nat, Met l y (.code y bytes maxL ret :: kB) (kR fr lo) (va_Pc av (fun U => U.heap.size = sz ∧ va_P D vwCl w U.heap ∧ va_K D vwCl (kT G) U ∧ va_D (fun _ => True) w ∧ nf U)) (fun _ st oc t => (oc = .returned o ∧ va_P D vwCl w2 t.heap ∧ va_D (va_A w sz) w2) ∧ va_F (va_A w sz) st t) 0 0 (va_A w sz)
/-- which instruction may end a method -/
def rk (ret : Option FieldType) (o : Option Value) (ins : Instr) : Prop :=
  (ret = some .int ∧ ins = .ireturn ∧ ∃ v : Int32, o = some (.int v)) ∨ (ret = some .boolean ∧ ins = .ireturn ∧ ∃ v : Int32, (v = 0 ∨ v = 1) ∧ o = some (.int v)) ∨ (ret = some .long ∧ ins = .lreturn ∧ ∃ v : Int64, o = some (.long v)) ∨ (ret = none ∧ ins = .return_ ∧ o = none)
theorem rkI (v : Int32) : rk (some .int) (some (.int v)) .ireturn := Or.inl ⟨rfl, rfl, v, rfl⟩
theorem rkZ {v : Int32} (h : v = 0 ∨ v = 1) : rk (some .boolean) (some (.int v)) .ireturn := Or.inr (Or.inl ⟨rfl, rfl, v, h, rfl⟩)
theorem rkL (v : Int64) : rk (some .long) (some (.long v)) .lreturn := Or.inr (Or.inr (Or.inl ⟨rfl, rfl, v, rfl⟩))
theorem rkV : rk none none .return_ := Or.inr (Or.inr (Or.inr ⟨rfl, rfl, rfl⟩))
theorem k_ret {p : Program} {l : Launch} {e : Env} {R : Room} {s : State} {m : MethodId} {args : Array Value} {below : List Frame} {meth : Method} {c : Code} {H : Heap} {locs : List Loc} {cells slots : Nat} {cc : ByteArray} {ret : Option FieldType} {Qc : Array Value → State → Outcome → State → Prop} {free : Addr → Prop} {o : Option Value} {ins : Instr} {pc : Nat} {ls : Array Slot}
    (hexec : p.tables.exec = Jvm.exec) (hb : c.code = cc) (hr : meth.sig.returnType = ret) (hlocks : meth.locks = false) (hq : ∀ t : State, t.heap = H → s.WarmedH t.vm → Qc args s (.returned o) t) (hf : ∀ q ∈ locs, free q.base) (hdg : decode cc pc = .ok (ins, 1)) (hk : rk ret o ins) : W p l e R s m args below meth c H locs cells slots (MQ below Qc args s cells slots free) (F0 m pc ls o.toList) := by
  rcases hk with ⟨rfl, rfl, v, rfl⟩ | ⟨rfl, rfl, v, h01, rfl⟩ | ⟨rfl, rfl, v, rfl⟩ | ⟨rfl, rfl, rfl⟩
  · exact W.iret hexec hb hr hq hf hdg hlocks
  · exact W.zret hexec hb hr (by rcases h01 with rfl | rfl <;> rfl) hq hf hdg hlocks
  · exact W.lret hexec hb hr hq hf hdg hlocks
  · exact W.vret hexec hb hr hq hf hdg hlocks
theorem rO_of {l : Launch} {D : va_G} {G : Nat → ClassId} {y : MethodName} {fr lo : Nat} {av : List Value} {w : va_W} {o : Option Value} {cc : ByteArray} {maxL : Nat} {ret : Option FieldType} (hy : plainName y.cls = true) (hlen : (lg_sl av).length ≤ maxL)
    (body : ∀ (p : Program) (e : Env) (s : State) (m : MethodId) (args : Array Value) (below : List Frame) (meth : Method) (c : Code) (Q : State → Prop), p.tables.exec = Jvm.exec → c.code = cc → c.maxLocals = maxL → s.vm.findClass y.cls = some m.cls → (∀ w ∈ kB, w.before args s = true) → va_K D vwCl (kT G) s → nf s → va_P D vwCl w s.heap →
      (∀ (pc : Nat) (ls : Array Slot) (ins : Instr), decode cc pc = .ok (ins, 1) → rk ret o ins → W p l e (kR fr lo) s m args below meth c s.heap [] 0 0 Q (F0 m pc ls o.toList)) →
      ∀ ls : Array Slot, lv_has ls maxL (lv_args 0 av) → W p l e (kR fr lo) s m args below meth c s.heap [] 0 0 Q (F0 m 0 ls [])) : rO l D G y cc maxL ret fr lo av w o := by
  refine Met.ofW (cc := cc) (maxL := maxL) (ret := ret) hy rfl ?_
  intro p e s m args below meth c s₁ B hml hv
  obtain ⟨rfl, hP, hK, hn⟩ := hv
  have hl := lv_entry av (n := maxL) hlen
  rw [lg_entry_eq]
  refine body p e s m _ below meth c _ B.exec B.bytes hml (findClass_of_methodNamed B.named) (fun w h => atoms_spec (ws := _) B.pre w (List.mem_cons_of_mem _ h)) hK hn hP ?_ _ hl
  intro pc ls ins hd hk
  exact k_ret B.exec B.bytes B.returns B.notSynchronized (fun t ht _ => ⟨rfl, ht⟩) (fun _ h => absurd h List.not_mem_nil) hd hk
theorem rW_of {l : Launch} {D : va_G} {G : Nat → ClassId} {y : MethodName} {fr lo : Nat} {av : List Value} {w w2 : va_W} {o : Option Value} {cc : ByteArray} {maxL : Nat} {ret : Option FieldType} (hy : plainName y.cls = true) (hlen : (lg_sl av).length ≤ maxL)
    (body : ∀ (p : Program) (e : Env) (s : State) (m : MethodId) (args : Array Value) (below : List Frame) (meth : Method) (c : Code) (Q : State → Prop) (A : Nat → Prop), p.tables.exec = Jvm.exec → c.code = cc → c.maxLocals = maxL → s.vm.findClass y.cls = some m.cls → (∀ w ∈ kB, w.before args s = true) → va_K D vwCl (kT G) s → nf s → (∀ q : Nat, s.heap.size ≤ q → A q) →
      (∀ (pc : Nat) (ls : Array Slot) (ins : Instr) (H : Heap) (locs : List Loc), decode cc pc = .ok (ins, 1) → rk ret o ins → va_P D vwCl w2 H → va_D A w2 → va_S A s.heap H locs → W p l e (kR fr lo) s m args below meth c H locs 0 0 Q (F0 m pc ls o.toList)) →
      ∀ (H : Heap) (locs : List Loc), va_P D vwCl w H → va_D A w → va_S A s.heap H locs → ∀ ls : Array Slot, lv_has ls maxL (lv_args 0 av) → W p l e (kR fr lo) s m args below meth c H locs 0 0 Q (F0 m 0 ls [])) : rW l D G y cc maxL ret fr lo av w w2 o := by
  intro sz
  refine Met.ofW (cc := cc) (maxL := maxL) (ret := ret) hy rfl ?_
  intro p e s m args below meth c s₁ B hml hv
  obtain ⟨rfl, hsz, hP, hK, hD0, hn⟩ := hv
  have hl := lv_entry av (n := maxL) hlen
  rw [lg_entry_eq]
  subst hsz
  refine body p e s m _ below meth c _ (va_A w s.heap.size) B.exec B.bytes hml (findClass_of_methodNamed B.named) (fun w h => atoms_spec (ws := _) B.pre w (List.mem_cons_of_mem _ h)) hK hn (fun q h => Or.inr h) ?_ _ _ hP hD0.self va_S.rf _ hl
  intro pc ls ins H locs hd hk hP2 hD2 hS
  exact k_ret B.exec B.bytes B.returns B.notSynchronized (fun t ht _ => ⟨⟨rfl, by rw [ht]; exact hP2, hD2⟩, hS.F ht⟩) hS.2.2 hd hk
/-- the caller's world behind a call: the callee's cells in their places -/
def kmix : List Bool → va_W → va_W → va_W
  | [], ws, _ => ws
  | true :: bs, _ :: ws, c :: w2 => c :: kmix bs ws w2
  | false :: bs, x :: ws, w2 => x :: kmix bs ws w2
  | _ :: _, _, _ => []
def kcnt : List Bool → Nat → Nat
  | b :: bs, k + 1 => (if b then 1 else 0) + kcnt bs k
  | _, _ => 0
theorem kcnt_lt : ∀ (bs : List Bool) (i j : Nat), bs[i]? = some true → i < j → kcnt bs i < kcnt bs j
  | [], i, j, h, _ => by simp at h
  | b :: bs, 0, j + 1, h, _ => by
    have hb : b = true := by simpa using h
    subst hb
    simp only [kcnt, if_true]
    omega
  | b :: bs, i + 1, j + 1, h, hl => by
    have := kcnt_lt bs i j (by simpa using h) (by omega)
    simp only [kcnt]
    omega
theorem kmix_get : ∀ (bs : List Bool) (ws w2 : va_W) (k : Nat) (q : Nat × va_E), (kmix bs ws w2)[k]? = some q → (bs[k]? = some true ∧ w2[kcnt bs k]? = some q) ∨ (bs[k]? ≠ some true ∧ ws[k]? = some q)
  | [], ws, w2, k, q, h => Or.inr ⟨by simp, h⟩
  | true :: bs, _ :: ws, c :: w2, 0, q, h => Or.inl ⟨rfl, h⟩
  | true :: bs, _ :: ws, c :: w2, k + 1, q, h => by
    rcases kmix_get bs ws w2 k q h with ⟨h1, h2⟩ | ⟨h1, h2⟩
    · refine Or.inl ⟨h1, ?_⟩
      rw [show kcnt (true :: bs) (k + 1) = kcnt bs k + 1 from Nat.add_comm _ _]
      exact h2
    · exact Or.inr ⟨h1, h2⟩
  | false :: bs, x :: ws, w2, 0, q, h => Or.inr ⟨by simp, by cases w2 <;> exact h⟩
  | false :: bs, x :: ws, w2, k + 1, q, h => by
    have h' : (kmix bs ws w2)[k]? = some q := by cases w2 <;> exact h
    rcases kmix_get bs ws w2 k q h' with ⟨h1, h2⟩ | ⟨h1, h2⟩
    · refine Or.inl ⟨h1, ?_⟩
      rw [show kcnt (false :: bs) (k + 1) = kcnt bs k from Nat.zero_add _]
      exact h2
    · exact Or.inr ⟨h1, h2⟩
  | true :: bs, [], w2, k, q, h => by cases w2 <;> cases h
  | false :: bs, [], w2, k, q, h => by cases w2 <;> cases h
  | true :: bs, _ :: ws, [], k, q, h => by cases h
theorem k_pick {is : List Nat} {ws w : va_W} (hs : is.map (fun i => ws[i]?) = w.map some) (k : Nat) (q : Nat × va_E) (hq : w[k]? = some q) : ∃ i, is[k]? = some i ∧ ws[i]? = some q := by
  have h1 : (is.map (fun i => ws[i]?))[k]? = some (some q) := by rw [hs, List.getElem?_map, hq]; rfl
  rw [List.getElem?_map] at h1
  cases hi : is[k]? with
  | none => rw [hi] at h1; cases h1
  | some i => rw [hi] at h1; exact ⟨i, rfl, Option.some.inj h1⟩
theorem k_picksub {D : va_G} {cl : List vw_C} {is : List Nat} {ws w : va_W} {H : Heap} (hP : va_P D cl ws H) (hs : is.map (fun i => ws[i]?) = w.map some) : va_P D cl w H := fun k q hq => by
  obtain ⟨i, -, h⟩ := k_pick hs k q hq
  exact hP i q h
theorem kmix_join {A0 : Nat → Prop} {D : va_G} {cl : List vw_C} {ws wc w2 : va_W} {H H1 : Heap} {bs : List Bool} (hP : va_P D cl ws H) (hD : va_D A0 ws) (isC : List Nat) (hC : isC.map (fun i => ws[i]?) = wc.map some) (hbs : isC.all (fun i => bs[i]? == some true) = true)
    (hk : ∀ q : Nat, q < H.size → ¬ va_A wc H.size q → H1[q]? = H[q]?) (hF : ∀ q, va_A wc H.size q → A0 q) (hP1 : va_P D cl w2 H1) (hD1 : va_D (va_A wc H.size) w2) : va_P D cl (kmix bs ws w2) H1 ∧ va_D A0 (kmix bs ws w2) := by
  have apart : ∀ (k : Nat) (q : Nat × va_E), bs[k]? ≠ some true → ws[k]? = some q → q.1 < H.size ∧ ¬ va_A wc H.size q.1 := by
    intro k q hn hq
    have hl := (hP k q hq).lt
    refine ⟨hl, fun h => ?_⟩
    rcases h with ⟨k2, e, h⟩ | h
    · obtain ⟨j, h3, h4⟩ := k_pick hC k2 (q.1, e) h
      have hij := hD.1 k j q (q.1, e) hq h4 rfl
      subst hij
      exact hn (by simpa using List.all_eq_true.mp hbs k (List.mem_of_getElem? h3))
    · omega
  refine ⟨fun k q hq => ?_, fun i j x y hx hy hxy => ?_, fun k q hq => ?_⟩
  · rcases kmix_get bs ws w2 k q hq with ⟨-, h2⟩ | ⟨h1, h2⟩
    · exact hP1 _ q h2
    · obtain ⟨g1, g2⟩ := apart k q h1 h2
      exact (hP k q h2).kept (hk q.1 g1 g2)
  · rcases kmix_get bs ws w2 i x hx with ⟨a1, a2⟩ | ⟨a1, a2⟩
    · rcases kmix_get bs ws w2 j y hy with ⟨b1, b2⟩ | ⟨b1, b2⟩
      · have hab := hD1.1 _ _ x y a2 b2 hxy
        rcases Nat.lt_trichotomy i j with h | h | h
        · have := kcnt_lt bs i j a1 h; omega
        · exact h
        · have := kcnt_lt bs j i b1 h; omega
      · exact absurd (by rw [← hxy]; exact hD1.2 _ x a2) (apart j y b1 b2).2
    · rcases kmix_get bs ws w2 j y hy with ⟨b1, b2⟩ | ⟨b1, b2⟩
      · exact absurd (by rw [hxy]; exact hD1.2 _ y b2) (apart i x a1 a2).2
      · exact hD.1 i j x y a2 b2 hxy
  · rcases kmix_get bs ws w2 k q hq with ⟨-, h2⟩ | ⟨h1, h2⟩
    · exact hF _ (hD1.2 _ q h2)
    · exact hD.2 k q h2
/-- what the tables say of a call of an instance's method; of a static one; of a nest mate's -/
def kCV (own : String) (index : Nat) (C : String) (y : MethodName) (bytes : ByteArray) (maxL : Nat) (ret : Option FieldType) (n : Nat) : Prop := Cond.methodLink own index y ∈ kB ∧ Cond.instanceMethod y ∈ kB ∧ Cond.selects C y y ∈ kB ∧ Cond.initialized C ∈ kB ∧ Cond.code y bytes maxL ret ∈ kB ∧ (y.cls = C ∧ y.cls ≠ "java/lang/invoke/MethodHandle" ∧ y.cls ≠ "java/lang/invoke/VarHandle" ∧ (parseMethodDescriptor y.desc).map (fun d => d.parameters.length) = some n)
def kCS (own : String) (index : Nat) (y : MethodName) (bytes : ByteArray) (maxL : Nat) (ret : Option FieldType) (n : Nat) : Prop := Cond.methodLink own index y ∈ kB ∧ Cond.static y ∈ kB ∧ Cond.initialized y.cls ∈ kB ∧ Cond.code y bytes maxL ret ∈ kB ∧ (y.cls ≠ "java/lang/invoke/MethodHandle" ∧ y.cls ≠ "java/lang/invoke/VarHandle" ∧ (parseMethodDescriptor y.desc).map (fun d => d.parameters.length) = some n)
def kCN (own : String) (index : Nat) (y : MethodName) (bytes : ByteArray) (maxL : Nat) (ret : Option FieldType) (n : Nat) : Prop := Cond.methodLinkNest own index y RX7 ∈ nfw ∧ Cond.static y ∈ kB ∧ Cond.initialized y.cls ∈ kB ∧ Cond.code y bytes maxL ret ∈ kB ∧ (y.cls ≠ "java/lang/invoke/MethodHandle" ∧ y.cls ≠ "java/lang/invoke/VarHandle" ∧ (parseMethodDescriptor y.desc).map (fun d => d.parameters.length) = some n)
theorem kCV.good {own : String} {index : Nat} {C : String} {y : MethodName} {bytes : ByteArray} {maxL : Nat} {ret : Option FieldType} {n : Nat} (h : kCV own index C y bytes maxL ret n) : GoodIn kB (wsV own index C y (Cond.code y bytes maxL ret :: kB)) := by
  obtain ⟨h1, h2, h3, h4, h5, -⟩ := h
  refine goodIn_app ?_ (kB_cons h5)
  intro w hw
  simp only [List.mem_cons, List.not_mem_nil, or_false] at hw
  rcases hw with rfl | rfl | rfl | rfl
  · exact kB_in _ h1
  · exact kB_in _ h2
  · exact kB_in _ h3
  · exact kB_in _ h4
theorem kCS.good {own : String} {index : Nat} {y : MethodName} {bytes : ByteArray} {maxL : Nat} {ret : Option FieldType} {n : Nat} (h : kCS own index y bytes maxL ret n) : GoodIn kB (va_wsS own index y (Cond.code y bytes maxL ret :: kB)) := by
  obtain ⟨h1, h2, h3, h5, -⟩ := h
  refine goodIn_app ?_ (kB_cons h5)
  intro w hw
  simp only [List.mem_cons, List.not_mem_nil, or_false] at hw
  rcases hw with rfl | rfl | rfl
  · exact kB_in _ h1
  · exact kB_in _ h2
  · exact kB_in _ h3
section KCALL
variable {p : Program} {l : Launch} {e : Env} {R : Room} {s : State} {m : MethodId} {args : Array Value} {below : List Frame} {meth : Method} {c : Code} {H : Heap} {locs : List Loc} {cells slots : Nat} {Q : State → Prop}
variable {cc : ByteArray} {nL pc index n : Nat} {ls : Array Slot} {rest st As : List Value} {own C : String} {D : va_G} {G : Nat → ClassId} {A : Nat → Prop} {ws wc w2 : va_W} {y : MethodName} {bytes : ByteArray} {maxL fr lo b ci : Nat} {ret : Option FieldType} {o : Option Value} {v : Value} {fs : List Value} {T0 : u_T} {N0 : Nat}
theorem k_goO {free : Addr → Prop} (hfree : ∀ q, ¬ free q) (hr : va_Run p l e R s m args below meth c H locs cells slots 0 0 (F0 m pc ls st) rest (fun (s0 : State) (oc : Outcome) (t : State) => oc = Outcome.returned o ∧ t.heap = s0.heap) free)
    (kk : W p l e R s m args below meth c H locs cells slots Q (F0 m (pc + 3) ls (o.toList ++ rest))) : W p l e R s m args below meth c H locs cells slots Q (F0 m pc ls st) := by
  intro T hT X
  obtain ⟨v, st₀, t, T', L, h0, X', hL, e1, e2, ⟨hv, hh⟩, stp⟩ := hr T hT X
  cases hv
  have hL0 : L = [] := List.eq_nil_iff_forall_not_mem.mpr (fun q hq => hfree _ (hL q hq))
  subst hL0
  rw [List.append_nil] at X'
  obtain ⟨t2, a1, b1⟩ := kk T' (by rw [e1, hh, h0]) X'
  exact ⟨t2, stp t2 a1, b1⟩
theorem k_goW (hA : ∀ q, s.heap.size ≤ q → A q) (hP : va_P D vwCl ws H) (hD : va_D A ws) (hS : va_S A s.heap H locs) (isC : List Nat) (hC : isC.map (fun i => ws[i]?) = wc.map some) (bs : List Bool) (hbs : isC.all (fun i => bs[i]? == some true) = true) {w3 : va_W} (pm : List Nat) (hpn : va_nd pm = true) (hpm : pm.map (fun i => w2[i]?) = w3.map some)
    (hr : va_Run p l e R s m args below meth c H locs cells slots 0 0 (F0 m pc ls st) rest (fun (s0 : State) (oc : Outcome) (t : State) => (oc = Outcome.returned o ∧ va_P D vwCl w2 t.heap ∧ va_D (va_A wc H.size) w2) ∧ va_F (va_A wc H.size) s0 t) (va_A wc H.size))
    (kk : ∀ (H1 : Heap) (locs1 : List Loc), va_P D vwCl (kmix bs ws w3) H1 → va_D A (kmix bs ws w3) → va_S A s.heap H1 locs1 → W p l e R s m args below meth c H1 locs1 cells slots Q (F0 m (pc + 3) ls (o.toList ++ rest))) : W p l e R s m args below meth c H locs cells slots Q (F0 m pc ls st) := by
  have hF := va_free (wc := wc) hD hS hA isC hC
  intro T hT X
  obtain ⟨v, st₀, t, T', L, h0, X', hL, e1, e2, ⟨⟨hv, hp2, hd2⟩, hz, hk⟩, stp⟩ := hr T hT X
  cases hv
  rw [h0] at hz hk
  obtain ⟨hPn, hDn⟩ := kmix_join (bs := bs) hP hD isC hC hbs (H1 := T'.heap) (fun q h1 h2 => by rw [e1]; exact hk q h1 h2) hF (by rw [e1]; exact k_picksub hp2 hpm) (hd2.sub pm hpn hpm)
  obtain ⟨t2, a1, b1⟩ := kk T'.heap (locs ++ L) hPn hDn
    ⟨Nat.le_trans hS.1 (by rw [e1]; exact hz), fun q h1 h2 => by rw [e1, hk q (Nat.lt_of_lt_of_le h1 hS.1) (fun z => h2 (hF q z))]; exact hS.2.1 q h1 h2, fun q hq => by
      rcases List.mem_append.mp hq with h | h
      · exact hS.2.2 q h
      · exact hF _ (hL q h)⟩ T' rfl X'
  exact ⟨t2, stp t2 a1, b1⟩
theorem rO_blind {av : List Value} {w : va_W} : FrameBlind (va_Pc av (fun U => va_P D vwCl w U.heap ∧ va_K D vwCl (kT G) U ∧ nf U)) := fun a U g mk q => by
  obtain ⟨q0, qP, qK, qn⟩ := q
  exact ⟨q0, qP, va_K.moved (u := U) (U := U.calling g mk a) (Vm.Alike.refl U.vm) qK, nf.same (u := U) (U := U.calling g mk a) rfl qn⟩
theorem rW_blind {av : List Value} {w : va_W} {sz : Nat} : FrameBlind (va_Pc av (fun U => U.heap.size = sz ∧ va_P D vwCl w U.heap ∧ va_K D vwCl (kT G) U ∧ va_D (fun _ => True) w ∧ nf U)) := fun a U g mk q => by
  obtain ⟨q0, q1, qP, qK, qD, qn⟩ := q
  exact ⟨q0, q1, qP, va_K.moved (u := U) (U := U.calling g mk a) (Vm.Alike.refl U.vm) qK, qD, nf.same (u := U) (U := U.calling g mk a) rfl qn⟩
theorem va_D.pick {is : List Nat} {w : va_W} (hD : va_D A ws) (hnd : va_nd is = true) (hs : is.map (fun i => ws[i]?) = w.map some) : va_D (fun _ => True) w := (hD.sub is hnd hs).weaken (fun _ _ _ _ => trivial)
theorem kO_virt (hx : p.tables.exec = Jvm.exec) (hb : c.code = cc) (hml : c.maxLocals = nL) (hown : s.vm.findClass own = some m.cls) (hts : ∀ w ∈ kB, w.before args s = true) (hK : va_K D vwCl (kT G) s) (hn : nf s) (hP : va_P D vwCl ws H)
    (hM : rO l D G y bytes maxL ret fr lo (.ref b :: As) wc (some v)) (hc : kCV own index C y bytes maxL ret n) (hR : fr + 1 ≤ R.frames ∧ 8 + (maxL + 11) + lo ≤ R.locals) (isC : List Nat) (hC : isC.map (fun i => ws[i]?) = wc.map some) (q0 : Nat) (he : ws[q0]? = some (b, .inr (ci, fs))) (hci : vwCl[ci]? = some (C, T0, N0))
    (hlen : As.length = n) (hls : ls.size = nL) (hst : st = As.reverse ++ .ref b :: rest) (hW : (rest.map fun v => v.category).sum ≤ 8) (hf : cells ≤ R.cells ∧ slots ≤ R.slots) (hdg : decode cc pc = .ok (.invokevirtual index, 3))
    (kk : W p l e R s m args below meth c H locs cells slots Q (F0 m (pc + 3) ls (v :: rest))) : W p l e R s m args below meth c H locs cells slots Q (F0 m pc ls st) := by
  subst hst
  exact k_goO (fun _ h => h) (va_runV (As := As) (rest := rest) ⟨hx, hb, hml, hown, hts⟩ hM (cwV n hts hc.good rfl rfl rfl hc.2.2.2.2.2 hR) ⟨rO_blind, va_recv hK hP hci he, fun U hU hW => ⟨rfl, by rw [hU]; exact k_picksub hP hC, va_K.moved hW.alike hK, hn.warm hW⟩⟩ rfl hlen hls rfl (lv_room hW) hdg hf) kk
theorem kW_virt (hx : p.tables.exec = Jvm.exec) (hb : c.code = cc) (hml : c.maxLocals = nL) (hown : s.vm.findClass own = some m.cls) (hts : ∀ w ∈ kB, w.before args s = true) (hK : va_K D vwCl (kT G) s) (hn : nf s) (hA : ∀ q, s.heap.size ≤ q → A q) (hP : va_P D vwCl ws H) (hD : va_D A ws) (hS : va_S A s.heap H locs)
    (hM : rW l D G y bytes maxL ret fr lo (.ref b :: As) wc w2 (some v)) (hc : kCV own index C y bytes maxL ret n) (hR : fr + 1 ≤ R.frames ∧ 8 + (maxL + 11) + lo ≤ R.locals) (isC : List Nat) (hnd : va_nd isC = true) (hC : isC.map (fun i => ws[i]?) = wc.map some) (bs : List Bool) (hbs : isC.all (fun i => bs[i]? == some true) = true) {w3 : va_W} (pm : List Nat) (hpn : va_nd pm = true) (hpm : pm.map (fun i => w2[i]?) = w3.map some) (q0 : Nat) (he : ws[q0]? = some (b, .inr (ci, fs))) (hci : vwCl[ci]? = some (C, T0, N0))
    (hlen : As.length = n) (hls : ls.size = nL) (hst : st = As.reverse ++ .ref b :: rest) (hW : (rest.map fun v => v.category).sum ≤ 8) (hf : cells ≤ R.cells ∧ slots ≤ R.slots) (hdg : decode cc pc = .ok (.invokevirtual index, 3))
    (kk : ∀ (H1 : Heap) (locs1 : List Loc), va_P D vwCl (kmix bs ws w3) H1 → va_D A (kmix bs ws w3) → va_S A s.heap H1 locs1 → W p l e R s m args below meth c H1 locs1 cells slots Q (F0 m (pc + 3) ls (v :: rest))) : W p l e R s m args below meth c H locs cells slots Q (F0 m pc ls st) := by
  subst hst
  exact k_goW hA hP hD hS isC hC bs hbs pm hpn hpm (va_runV (As := As) (rest := rest) ⟨hx, hb, hml, hown, hts⟩ (hM H.size) (cwV n hts hc.good rfl rfl rfl hc.2.2.2.2.2 hR) ⟨rW_blind, va_recv hK hP hci he, fun U hU hW => ⟨rfl, by rw [hU], by rw [hU]; exact k_picksub hP hC, va_K.moved hW.alike hK, va_D.pick hD hnd hC, hn.warm hW⟩⟩ rfl hlen hls rfl (lv_room hW) hdg hf) kk
theorem kW_virt0 (hx : p.tables.exec = Jvm.exec) (hb : c.code = cc) (hml : c.maxLocals = nL) (hown : s.vm.findClass own = some m.cls) (hts : ∀ w ∈ kB, w.before args s = true) (hK : va_K D vwCl (kT G) s) (hn : nf s) (hA : ∀ q, s.heap.size ≤ q → A q) (hP : va_P D vwCl ws H) (hD : va_D A ws) (hS : va_S A s.heap H locs)
    (hM : rW l D G y bytes maxL ret fr lo (.ref b :: As) wc w2 none) (hc : kCV own index C y bytes maxL ret n) (hR : fr + 1 ≤ R.frames ∧ 8 + (maxL + 11) + lo ≤ R.locals) (isC : List Nat) (hnd : va_nd isC = true) (hC : isC.map (fun i => ws[i]?) = wc.map some) (bs : List Bool) (hbs : isC.all (fun i => bs[i]? == some true) = true) {w3 : va_W} (pm : List Nat) (hpn : va_nd pm = true) (hpm : pm.map (fun i => w2[i]?) = w3.map some) (q0 : Nat) (he : ws[q0]? = some (b, .inr (ci, fs))) (hci : vwCl[ci]? = some (C, T0, N0))
    (hlen : As.length = n) (hls : ls.size = nL) (hst : st = As.reverse ++ .ref b :: rest) (hW : (rest.map fun v => v.category).sum ≤ 8) (hf : cells ≤ R.cells ∧ slots ≤ R.slots) (hdg : decode cc pc = .ok (.invokevirtual index, 3))
    (kk : ∀ (H1 : Heap) (locs1 : List Loc), va_P D vwCl (kmix bs ws w3) H1 → va_D A (kmix bs ws w3) → va_S A s.heap H1 locs1 → W p l e R s m args below meth c H1 locs1 cells slots Q (F0 m (pc + 3) ls rest)) : W p l e R s m args below meth c H locs cells slots Q (F0 m pc ls st) := by
  subst hst
  exact k_goW hA hP hD hS isC hC bs hbs pm hpn hpm (va_runV (As := As) (rest := rest) ⟨hx, hb, hml, hown, hts⟩ (hM H.size) (cwV n hts hc.good rfl rfl rfl hc.2.2.2.2.2 hR) ⟨rW_blind, va_recv hK hP hci he, fun U hU hW => ⟨rfl, by rw [hU], by rw [hU]; exact k_picksub hP hC, va_K.moved hW.alike hK, va_D.pick hD hnd hC, hn.warm hW⟩⟩ rfl hlen hls rfl (lv_room hW) hdg hf) kk
theorem kO_stat (hx : p.tables.exec = Jvm.exec) (hb : c.code = cc) (hml : c.maxLocals = nL) (hown : s.vm.findClass own = some m.cls) (hts : ∀ w ∈ kB, w.before args s = true) (hK : va_K D vwCl (kT G) s) (hn : nf s) (hP : va_P D vwCl ws H)
    (hM : rO l D G y bytes maxL ret fr lo As wc (some v)) (hc : kCS own index y bytes maxL ret n) (hR : fr + 1 ≤ R.frames ∧ 8 + (maxL + 11) + lo ≤ R.locals) (isC : List Nat) (hC : isC.map (fun i => ws[i]?) = wc.map some)
    (hlen : As.length = n) (hls : ls.size = nL) (hst : st = As.reverse ++ rest) (hW : (rest.map fun v => v.category).sum ≤ 8) (hf : cells ≤ R.cells ∧ slots ≤ R.slots) (hdg : decode cc pc = .ok (.invokestatic index, 3))
    (kk : W p l e R s m args below meth c H locs cells slots Q (F0 m (pc + 3) ls (v :: rest))) : W p l e R s m args below meth c H locs cells slots Q (F0 m pc ls st) := by
  subst hst
  exact k_goO (fun _ h => h) (va_runS (As := As) (rest := rest) ⟨hx, hb, hml, hown, hts⟩ hM (va_cwS n hts hc.good rfl rfl rfl hc.2.2.2.2 hR) ⟨rO_blind, fun U hU hW => ⟨rfl, by rw [hU]; exact k_picksub hP hC, va_K.moved hW.alike hK, hn.warm hW⟩⟩ rfl hlen hls rfl (lv_room hW) hdg hf) kk
theorem kW_stat (hx : p.tables.exec = Jvm.exec) (hb : c.code = cc) (hml : c.maxLocals = nL) (hown : s.vm.findClass own = some m.cls) (hts : ∀ w ∈ kB, w.before args s = true) (hK : va_K D vwCl (kT G) s) (hn : nf s) (hA : ∀ q, s.heap.size ≤ q → A q) (hP : va_P D vwCl ws H) (hD : va_D A ws) (hS : va_S A s.heap H locs)
    (hM : rW l D G y bytes maxL ret fr lo As wc w2 (some v)) (hc : kCS own index y bytes maxL ret n) (hR : fr + 1 ≤ R.frames ∧ 8 + (maxL + 11) + lo ≤ R.locals) (isC : List Nat) (hnd : va_nd isC = true) (hC : isC.map (fun i => ws[i]?) = wc.map some) (bs : List Bool) (hbs : isC.all (fun i => bs[i]? == some true) = true) {w3 : va_W} (pm : List Nat) (hpn : va_nd pm = true) (hpm : pm.map (fun i => w2[i]?) = w3.map some)
    (hlen : As.length = n) (hls : ls.size = nL) (hst : st = As.reverse ++ rest) (hW : (rest.map fun v => v.category).sum ≤ 8) (hf : cells ≤ R.cells ∧ slots ≤ R.slots) (hdg : decode cc pc = .ok (.invokestatic index, 3))
    (kk : ∀ (H1 : Heap) (locs1 : List Loc), va_P D vwCl (kmix bs ws w3) H1 → va_D A (kmix bs ws w3) → va_S A s.heap H1 locs1 → W p l e R s m args below meth c H1 locs1 cells slots Q (F0 m (pc + 3) ls (v :: rest))) : W p l e R s m args below meth c H locs cells slots Q (F0 m pc ls st) := by
  subst hst
  exact k_goW hA hP hD hS isC hC bs hbs pm hpn hpm (va_runS (As := As) (rest := rest) ⟨hx, hb, hml, hown, hts⟩ (hM H.size) (va_cwS n hts hc.good rfl rfl rfl hc.2.2.2.2 hR) ⟨rW_blind, fun U hU hW => ⟨rfl, by rw [hU], by rw [hU]; exact k_picksub hP hC, va_K.moved hW.alike hK, va_D.pick hD hnd hC, hn.warm hW⟩⟩ rfl hlen hls rfl (lv_room hW) hdg hf) kk
theorem kW_stat0 (hx : p.tables.exec = Jvm.exec) (hb : c.code = cc) (hml : c.maxLocals = nL) (hown : s.vm.findClass own = some m.cls) (hts : ∀ w ∈ kB, w.before args s = true) (hK : va_K D vwCl (kT G) s) (hn : nf s) (hA : ∀ q, s.heap.size ≤ q → A q) (hP : va_P D vwCl ws H) (hD : va_D A ws) (hS : va_S A s.heap H locs)
    (hM : rW l D G y bytes maxL ret fr lo As wc w2 none) (hc : kCS own index y bytes maxL ret n) (hR : fr + 1 ≤ R.frames ∧ 8 + (maxL + 11) + lo ≤ R.locals) (isC : List Nat) (hnd : va_nd isC = true) (hC : isC.map (fun i => ws[i]?) = wc.map some) (bs : List Bool) (hbs : isC.all (fun i => bs[i]? == some true) = true) {w3 : va_W} (pm : List Nat) (hpn : va_nd pm = true) (hpm : pm.map (fun i => w2[i]?) = w3.map some)
    (hlen : As.length = n) (hls : ls.size = nL) (hst : st = As.reverse ++ rest) (hW : (rest.map fun v => v.category).sum ≤ 8) (hf : cells ≤ R.cells ∧ slots ≤ R.slots) (hdg : decode cc pc = .ok (.invokestatic index, 3))
    (kk : ∀ (H1 : Heap) (locs1 : List Loc), va_P D vwCl (kmix bs ws w3) H1 → va_D A (kmix bs ws w3) → va_S A s.heap H1 locs1 → W p l e R s m args below meth c H1 locs1 cells slots Q (F0 m (pc + 3) ls rest)) : W p l e R s m args below meth c H locs cells slots Q (F0 m pc ls st) := by
  subst hst
  exact k_goW hA hP hD hS isC hC bs hbs pm hpn hpm (va_runS (As := As) (rest := rest) ⟨hx, hb, hml, hown, hts⟩ (hM H.size) (va_cwS n hts hc.good rfl rfl rfl hc.2.2.2.2 hR) ⟨rW_blind, fun U hU hW => ⟨rfl, by rw [hU], by rw [hU]; exact k_picksub hP hC, va_K.moved hW.alike hK, va_D.pick hD hnd hC, hn.warm hW⟩⟩ rfl hlen hls rfl (lv_room hW) hdg hf) kk
theorem kO_nest (hx : p.tables.exec = Jvm.exec) (hb : c.code = cc) (hml : c.maxLocals = nL) (hown : s.vm.findClass own = some m.cls) (hts : ∀ w ∈ kB, w.before args s = true) (hK : va_K D vwCl (kT G) s) (hn : nf s) (hP : va_P D vwCl ws H)
    (hM : rO l D G y bytes maxL ret fr lo As wc (some v)) (hc : kCN own index y bytes maxL ret n) (hR : fr + 1 ≤ R.frames ∧ 8 + (maxL + 11) + lo ≤ R.locals) (isC : List Nat) (hC : isC.map (fun i => ws[i]?) = wc.map some)
    (hlen : As.length = n) (hls : ls.size = nL) (hst : st = As.reverse ++ rest) (hW : (rest.map fun v => v.category).sum ≤ 8) (hf : cells ≤ R.cells ∧ slots ≤ R.slots) (hdg : decode cc pc = .ok (.invokestatic index, 3))
    (kk : W p l e R s m args below meth c H locs cells slots Q (F0 m (pc + 3) ls (v :: rest))) : W p l e R s m args below meth c H locs cells slots Q (F0 m pc ls st) := by
  subst hst
  exact k_goO (fun _ h => h) (va_runSN (As := As) (rest := rest) ⟨hx, hb, hml, hown, hts⟩ hM ⟨va_cnB n hts (kB_cons hc.2.2.2.1) rfl rfl rfl (hn _ hc.1) (hts _ hc.2.2.1) hc.2.2.2.2 hR, hts _ hc.2.1, trivial⟩ ⟨rO_blind, fun U hU hW => ⟨rfl, by rw [hU]; exact k_picksub hP hC, va_K.moved hW.alike hK, hn.warm hW⟩⟩ rfl hlen hls rfl (lv_room hW) hdg hf) kk
end KCALL
