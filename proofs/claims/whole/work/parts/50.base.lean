/-! plain facts for the pure functions -/
section PB
variable {α β : Type}
theorem nme_s {x : β} {k : β → Option α} : nme x k = k x := by simp [nme]
theorem bd1_s {x : β} {k : β → Option α} : bd1 (some x) k = k x := by simp [bd1]
theorem nI_mul (a b : Nat) : nI a * nI b = nI (a * b) := by simp [nI]
theorem ldI_at {f : Nat → Int32} {n : Nat} {i : Int32} {j : Nat} {k : Int32 → Option α} (hi : i = nI j) (hj : j < n) (hn : n < 2 ^ 31) : ldI f n i k = k (f j) := by
  subst hi; unfold ldI; rw [if_neg (nI_in hj hn), nI_clamp (by omega)]
theorem stI_at {f : Nat → Int32} {n : Nat} {i x : Int32} {j : Nat} {k : (Nat → Int32) → Option α} (hi : i = nI j) (hj : j < n) (hn : n < 2 ^ 31) : stI f n i x k = k (upd f j x) := by
  subst hi; unfold stI; rw [if_neg (nI_in hj hn), nI_clamp (by omega)]
theorem ldL_at {f : Nat → Int64} {n : Nat} {i : Int32} {j : Nat} {k : Int64 → Option α} (hi : i = nI j) (hj : j < n) (hn : n < 2 ^ 31) : ldL f n i k = k (f j) := by
  subst hi; unfold ldL; rw [if_neg (nI_in hj hn), nI_clamp (by omega)]
theorem stL_at {f : Nat → Int64} {n : Nat} {i : Int32} {x : Int64} {j : Nat} {k : (Nat → Int64) → Option α} (hi : i = nI j) (hj : j < n) (hn : n < 2 ^ 31) : stL f n i x k = k (vp_updL f j x) := by
  subst hi; unfold stL; rw [if_neg (nI_in hj hn), nI_clamp (by omega)]
end PB
theorem bd2_s {α0 α1 β : Type} {x0 : α0} {x1 : α1} {k : α0 → α1 → Option β} : bd2 (some (x0, x1)) k = k x0 x1 := by simp [bd2]
theorem bd3_s {α0 α1 α2 β : Type} {x0 : α0} {x1 : α1} {x2 : α2} {k : α0 → α1 → α2 → Option β} : bd3 (some (x0, x1, x2)) k = k x0 x1 x2 := by simp [bd3]
theorem bd4_s {α0 α1 α2 α3 β : Type} {x0 : α0} {x1 : α1} {x2 : α2} {x3 : α3} {k : α0 → α1 → α2 → α3 → Option β} : bd4 (some (x0, x1, x2, x3)) k = k x0 x1 x2 x3 := by simp [bd4]
theorem bd5_s {α0 α1 α2 α3 α4 β : Type} {x0 : α0} {x1 : α1} {x2 : α2} {x3 : α3} {x4 : α4} {k : α0 → α1 → α2 → α3 → α4 → Option β} : bd5 (some (x0, x1, x2, x3, x4)) k = k x0 x1 x2 x3 x4 := by simp [bd5]
theorem bd6_s {α0 α1 α2 α3 α4 α5 β : Type} {x0 : α0} {x1 : α1} {x2 : α2} {x3 : α3} {x4 : α4} {x5 : α5} {k : α0 → α1 → α2 → α3 → α4 → α5 → Option β} : bd6 (some (x0, x1, x2, x3, x4, x5)) k = k x0 x1 x2 x3 x4 x5 := by simp [bd6]
theorem bd7_s {α0 α1 α2 α3 α4 α5 α6 β : Type} {x0 : α0} {x1 : α1} {x2 : α2} {x3 : α3} {x4 : α4} {x5 : α5} {x6 : α6} {k : α0 → α1 → α2 → α3 → α4 → α5 → α6 → Option β} : bd7 (some (x0, x1, x2, x3, x4, x5, x6)) k = k x0 x1 x2 x3 x4 x5 x6 := by simp [bd7]
theorem bd8_s {α0 α1 α2 α3 α4 α5 α6 α7 β : Type} {x0 : α0} {x1 : α1} {x2 : α2} {x3 : α3} {x4 : α4} {x5 : α5} {x6 : α6} {x7 : α7} {k : α0 → α1 → α2 → α3 → α4 → α5 → α6 → α7 → Option β} : bd8 (some (x0, x1, x2, x3, x4, x5, x6, x7)) k = k x0 x1 x2 x3 x4 x5 x6 x7 := by simp [bd8]
theorem bd9_s {α0 α1 α2 α3 α4 α5 α6 α7 α8 β : Type} {x0 : α0} {x1 : α1} {x2 : α2} {x3 : α3} {x4 : α4} {x5 : α5} {x6 : α6} {x7 : α7} {x8 : α8} {k : α0 → α1 → α2 → α3 → α4 → α5 → α6 → α7 → α8 → Option β} : bd9 (some (x0, x1, x2, x3, x4, x5, x6, x7, x8)) k = k x0 x1 x2 x3 x4 x5 x6 x7 x8 := by simp [bd9]
theorem bd10_s {α0 α1 α2 α3 α4 α5 α6 α7 α8 α9 β : Type} {x0 : α0} {x1 : α1} {x2 : α2} {x3 : α3} {x4 : α4} {x5 : α5} {x6 : α6} {x7 : α7} {x8 : α8} {x9 : α9} {k : α0 → α1 → α2 → α3 → α4 → α5 → α6 → α7 → α8 → α9 → Option β} : bd10 (some (x0, x1, x2, x3, x4, x5, x6, x7, x8, x9)) k = k x0 x1 x2 x3 x4 x5 x6 x7 x8 x9 := by simp [bd10]
theorem bd11_s {α0 α1 α2 α3 α4 α5 α6 α7 α8 α9 α10 β : Type} {x0 : α0} {x1 : α1} {x2 : α2} {x3 : α3} {x4 : α4} {x5 : α5} {x6 : α6} {x7 : α7} {x8 : α8} {x9 : α9} {x10 : α10} {k : α0 → α1 → α2 → α3 → α4 → α5 → α6 → α7 → α8 → α9 → α10 → Option β} : bd11 (some (x0, x1, x2, x3, x4, x5, x6, x7, x8, x9, x10)) k = k x0 x1 x2 x3 x4 x5 x6 x7 x8 x9 x10 := by simp [bd11]
theorem bd12_s {α0 α1 α2 α3 α4 α5 α6 α7 α8 α9 α10 α11 β : Type} {x0 : α0} {x1 : α1} {x2 : α2} {x3 : α3} {x4 : α4} {x5 : α5} {x6 : α6} {x7 : α7} {x8 : α8} {x9 : α9} {x10 : α10} {x11 : α11} {k : α0 → α1 → α2 → α3 → α4 → α5 → α6 → α7 → α8 → α9 → α10 → α11 → Option β} : bd12 (some (x0, x1, x2, x3, x4, x5, x6, x7, x8, x9, x10, x11)) k = k x0 x1 x2 x3 x4 x5 x6 x7 x8 x9 x10 x11 := by simp [bd12]
theorem bd13_s {α0 α1 α2 α3 α4 α5 α6 α7 α8 α9 α10 α11 α12 β : Type} {x0 : α0} {x1 : α1} {x2 : α2} {x3 : α3} {x4 : α4} {x5 : α5} {x6 : α6} {x7 : α7} {x8 : α8} {x9 : α9} {x10 : α10} {x11 : α11} {x12 : α12} {k : α0 → α1 → α2 → α3 → α4 → α5 → α6 → α7 → α8 → α9 → α10 → α11 → α12 → Option β} : bd13 (some (x0, x1, x2, x3, x4, x5, x6, x7, x8, x9, x10, x11, x12)) k = k x0 x1 x2 x3 x4 x5 x6 x7 x8 x9 x10 x11 x12 := by simp [bd13]
theorem bd14_s {α0 α1 α2 α3 α4 α5 α6 α7 α8 α9 α10 α11 α12 α13 β : Type} {x0 : α0} {x1 : α1} {x2 : α2} {x3 : α3} {x4 : α4} {x5 : α5} {x6 : α6} {x7 : α7} {x8 : α8} {x9 : α9} {x10 : α10} {x11 : α11} {x12 : α12} {x13 : α13} {k : α0 → α1 → α2 → α3 → α4 → α5 → α6 → α7 → α8 → α9 → α10 → α11 → α12 → α13 → Option β} : bd14 (some (x0, x1, x2, x3, x4, x5, x6, x7, x8, x9, x10, x11, x12, x13)) k = k x0 x1 x2 x3 x4 x5 x6 x7 x8 x9 x10 x11 x12 x13 := by simp [bd14]
theorem bd15_s {α0 α1 α2 α3 α4 α5 α6 α7 α8 α9 α10 α11 α12 α13 α14 β : Type} {x0 : α0} {x1 : α1} {x2 : α2} {x3 : α3} {x4 : α4} {x5 : α5} {x6 : α6} {x7 : α7} {x8 : α8} {x9 : α9} {x10 : α10} {x11 : α11} {x12 : α12} {x13 : α13} {x14 : α14} {k : α0 → α1 → α2 → α3 → α4 → α5 → α6 → α7 → α8 → α9 → α10 → α11 → α12 → α13 → α14 → Option β} : bd15 (some (x0, x1, x2, x3, x4, x5, x6, x7, x8, x9, x10, x11, x12, x13, x14)) k = k x0 x1 x2 x3 x4 x5 x6 x7 x8 x9 x10 x11 x12 x13 x14 := by simp [bd15]
theorem bd16_s {α0 α1 α2 α3 α4 α5 α6 α7 α8 α9 α10 α11 α12 α13 α14 α15 β : Type} {x0 : α0} {x1 : α1} {x2 : α2} {x3 : α3} {x4 : α4} {x5 : α5} {x6 : α6} {x7 : α7} {x8 : α8} {x9 : α9} {x10 : α10} {x11 : α11} {x12 : α12} {x13 : α13} {x14 : α14} {x15 : α15} {k : α0 → α1 → α2 → α3 → α4 → α5 → α6 → α7 → α8 → α9 → α10 → α11 → α12 → α13 → α14 → α15 → Option β} : bd16 (some (x0, x1, x2, x3, x4, x5, x6, x7, x8, x9, x10, x11, x12, x13, x14, x15)) k = k x0 x1 x2 x3 x4 x5 x6 x7 x8 x9 x10 x11 x12 x13 x14 x15 := by simp [bd16]
theorem bd17_s {α0 α1 α2 α3 α4 α5 α6 α7 α8 α9 α10 α11 α12 α13 α14 α15 α16 β : Type} {x0 : α0} {x1 : α1} {x2 : α2} {x3 : α3} {x4 : α4} {x5 : α5} {x6 : α6} {x7 : α7} {x8 : α8} {x9 : α9} {x10 : α10} {x11 : α11} {x12 : α12} {x13 : α13} {x14 : α14} {x15 : α15} {x16 : α16} {k : α0 → α1 → α2 → α3 → α4 → α5 → α6 → α7 → α8 → α9 → α10 → α11 → α12 → α13 → α14 → α15 → α16 → Option β} : bd17 (some (x0, x1, x2, x3, x4, x5, x6, x7, x8, x9, x10, x11, x12, x13, x14, x15, x16)) k = k x0 x1 x2 x3 x4 x5 x6 x7 x8 x9 x10 x11 x12 x13 x14 x15 x16 := by simp [bd17]
theorem bd18_s {α0 α1 α2 α3 α4 α5 α6 α7 α8 α9 α10 α11 α12 α13 α14 α15 α16 α17 β : Type} {x0 : α0} {x1 : α1} {x2 : α2} {x3 : α3} {x4 : α4} {x5 : α5} {x6 : α6} {x7 : α7} {x8 : α8} {x9 : α9} {x10 : α10} {x11 : α11} {x12 : α12} {x13 : α13} {x14 : α14} {x15 : α15} {x16 : α16} {x17 : α17} {k : α0 → α1 → α2 → α3 → α4 → α5 → α6 → α7 → α8 → α9 → α10 → α11 → α12 → α13 → α14 → α15 → α16 → α17 → Option β} : bd18 (some (x0, x1, x2, x3, x4, x5, x6, x7, x8, x9, x10, x11, x12, x13, x14, x15, x16, x17)) k = k x0 x1 x2 x3 x4 x5 x6 x7 x8 x9 x10 x11 x12 x13 x14 x15 x16 x17 := by simp [bd18]
theorem bd19_s {α0 α1 α2 α3 α4 α5 α6 α7 α8 α9 α10 α11 α12 α13 α14 α15 α16 α17 α18 β : Type} {x0 : α0} {x1 : α1} {x2 : α2} {x3 : α3} {x4 : α4} {x5 : α5} {x6 : α6} {x7 : α7} {x8 : α8} {x9 : α9} {x10 : α10} {x11 : α11} {x12 : α12} {x13 : α13} {x14 : α14} {x15 : α15} {x16 : α16} {x17 : α17} {x18 : α18} {k : α0 → α1 → α2 → α3 → α4 → α5 → α6 → α7 → α8 → α9 → α10 → α11 → α12 → α13 → α14 → α15 → α16 → α17 → α18 → Option β} : bd19 (some (x0, x1, x2, x3, x4, x5, x6, x7, x8, x9, x10, x11, x12, x13, x14, x15, x16, x17, x18)) k = k x0 x1 x2 x3 x4 x5 x6 x7 x8 x9 x10 x11 x12 x13 x14 x15 x16 x17 x18 := by simp [bd19]
theorem br1_l {α0 ρ : Type} {r : ρ} {k : α0 → Option ρ} : br1 (some (Sum.inl r)) k = some r := by simp [br1]
theorem br1_r {α0 ρ : Type} {x0 : α0} {k : α0 → Option ρ} : br1 (some (Sum.inr x0)) k = k x0 := by simp [br1]
theorem br2_l {α0 α1 ρ : Type} {r : ρ} {k : α0 → α1 → Option ρ} : br2 (some (Sum.inl r)) k = some r := by simp [br2]
theorem br2_r {α0 α1 ρ : Type} {x0 : α0} {x1 : α1} {k : α0 → α1 → Option ρ} : br2 (some (Sum.inr (x0, x1))) k = k x0 x1 := by simp [br2]
theorem br3_l {α0 α1 α2 ρ : Type} {r : ρ} {k : α0 → α1 → α2 → Option ρ} : br3 (some (Sum.inl r)) k = some r := by simp [br3]
theorem br3_r {α0 α1 α2 ρ : Type} {x0 : α0} {x1 : α1} {x2 : α2} {k : α0 → α1 → α2 → Option ρ} : br3 (some (Sum.inr (x0, x1, x2))) k = k x0 x1 x2 := by simp [br3]
theorem br4_l {α0 α1 α2 α3 ρ : Type} {r : ρ} {k : α0 → α1 → α2 → α3 → Option ρ} : br4 (some (Sum.inl r)) k = some r := by simp [br4]
theorem br4_r {α0 α1 α2 α3 ρ : Type} {x0 : α0} {x1 : α1} {x2 : α2} {x3 : α3} {k : α0 → α1 → α2 → α3 → Option ρ} : br4 (some (Sum.inr (x0, x1, x2, x3))) k = k x0 x1 x2 x3 := by simp [br4]
theorem br5_l {α0 α1 α2 α3 α4 ρ : Type} {r : ρ} {k : α0 → α1 → α2 → α3 → α4 → Option ρ} : br5 (some (Sum.inl r)) k = some r := by simp [br5]
theorem br5_r {α0 α1 α2 α3 α4 ρ : Type} {x0 : α0} {x1 : α1} {x2 : α2} {x3 : α3} {x4 : α4} {k : α0 → α1 → α2 → α3 → α4 → Option ρ} : br5 (some (Sum.inr (x0, x1, x2, x3, x4))) k = k x0 x1 x2 x3 x4 := by simp [br5]
theorem br6_l {α0 α1 α2 α3 α4 α5 ρ : Type} {r : ρ} {k : α0 → α1 → α2 → α3 → α4 → α5 → Option ρ} : br6 (some (Sum.inl r)) k = some r := by simp [br6]
theorem br6_r {α0 α1 α2 α3 α4 α5 ρ : Type} {x0 : α0} {x1 : α1} {x2 : α2} {x3 : α3} {x4 : α4} {x5 : α5} {k : α0 → α1 → α2 → α3 → α4 → α5 → Option ρ} : br6 (some (Sum.inr (x0, x1, x2, x3, x4, x5))) k = k x0 x1 x2 x3 x4 x5 := by simp [br6]
theorem br7_l {α0 α1 α2 α3 α4 α5 α6 ρ : Type} {r : ρ} {k : α0 → α1 → α2 → α3 → α4 → α5 → α6 → Option ρ} : br7 (some (Sum.inl r)) k = some r := by simp [br7]
theorem br7_r {α0 α1 α2 α3 α4 α5 α6 ρ : Type} {x0 : α0} {x1 : α1} {x2 : α2} {x3 : α3} {x4 : α4} {x5 : α5} {x6 : α6} {k : α0 → α1 → α2 → α3 → α4 → α5 → α6 → Option ρ} : br7 (some (Sum.inr (x0, x1, x2, x3, x4, x5, x6))) k = k x0 x1 x2 x3 x4 x5 x6 := by simp [br7]
theorem br8_l {α0 α1 α2 α3 α4 α5 α6 α7 ρ : Type} {r : ρ} {k : α0 → α1 → α2 → α3 → α4 → α5 → α6 → α7 → Option ρ} : br8 (some (Sum.inl r)) k = some r := by simp [br8]
theorem br8_r {α0 α1 α2 α3 α4 α5 α6 α7 ρ : Type} {x0 : α0} {x1 : α1} {x2 : α2} {x3 : α3} {x4 : α4} {x5 : α5} {x6 : α6} {x7 : α7} {k : α0 → α1 → α2 → α3 → α4 → α5 → α6 → α7 → Option ρ} : br8 (some (Sum.inr (x0, x1, x2, x3, x4, x5, x6, x7))) k = k x0 x1 x2 x3 x4 x5 x6 x7 := by simp [br8]
theorem br9_l {α0 α1 α2 α3 α4 α5 α6 α7 α8 ρ : Type} {r : ρ} {k : α0 → α1 → α2 → α3 → α4 → α5 → α6 → α7 → α8 → Option ρ} : br9 (some (Sum.inl r)) k = some r := by simp [br9]
theorem br9_r {α0 α1 α2 α3 α4 α5 α6 α7 α8 ρ : Type} {x0 : α0} {x1 : α1} {x2 : α2} {x3 : α3} {x4 : α4} {x5 : α5} {x6 : α6} {x7 : α7} {x8 : α8} {k : α0 → α1 → α2 → α3 → α4 → α5 → α6 → α7 → α8 → Option ρ} : br9 (some (Sum.inr (x0, x1, x2, x3, x4, x5, x6, x7, x8))) k = k x0 x1 x2 x3 x4 x5 x6 x7 x8 := by simp [br9]
theorem br10_l {α0 α1 α2 α3 α4 α5 α6 α7 α8 α9 ρ : Type} {r : ρ} {k : α0 → α1 → α2 → α3 → α4 → α5 → α6 → α7 → α8 → α9 → Option ρ} : br10 (some (Sum.inl r)) k = some r := by simp [br10]
theorem br10_r {α0 α1 α2 α3 α4 α5 α6 α7 α8 α9 ρ : Type} {x0 : α0} {x1 : α1} {x2 : α2} {x3 : α3} {x4 : α4} {x5 : α5} {x6 : α6} {x7 : α7} {x8 : α8} {x9 : α9} {k : α0 → α1 → α2 → α3 → α4 → α5 → α6 → α7 → α8 → α9 → Option ρ} : br10 (some (Sum.inr (x0, x1, x2, x3, x4, x5, x6, x7, x8, x9))) k = k x0 x1 x2 x3 x4 x5 x6 x7 x8 x9 := by simp [br10]
theorem br0_l {ρ : Type} {r : ρ} {k : Option ρ} : br0 (some (Sum.inl r)) k = some r := by simp [br0]
theorem br0_r {ρ : Type} {k : Option ρ} : br0 (some (Sum.inr ())) k = k := by simp [br0]
theorem bd0_s {β : Type} {k : Option β} : bd0 (some ()) k = k := by simp [bd0]
theorem nI_of_toInt {x : Int32} {n : Nat} (h0 : 0 ≤ x.toInt) (h1 : x.toInt < n) : ∃ j : Nat, j < n ∧ x = nI j := by
  have hb : x.toInt < 2 ^ 31 := x.toInt_lt
  refine ⟨x.toInt.toNat, by omega, Int32.toInt_inj.mp ?_⟩
  rw [nI_toInt (by omega)]
  omega
theorem in_cases (v a b : Int32) : (fX8_in v a b = some 0 ∧ ¬ (a.toInt ≤ v.toInt ∧ v.toInt ≤ b.toInt)) ∨ (fX8_in v a b = some 1 ∧ a.toInt ≤ v.toInt ∧ v.toInt ≤ b.toInt) := by
  unfold fX8_in
  simp only [Int32.lt_iff_toInt_lt]
  by_cases h1 : v.toInt < a.toInt
  · exact Or.inl ⟨by rw [if_pos h1], by omega⟩
  · rw [if_neg h1]
    by_cases h2 : b.toInt < v.toInt
    · exact Or.inl ⟨by rw [if_pos h2], by omega⟩
    · exact Or.inr ⟨by rw [if_neg h2], by omega, by omega⟩
theorem among_in {v n m : Int32} (h : m.toInt + 1 = n.toInt) : fX7_isAmong v n = fX8_in v 0 m := by
  unfold fX7_isAmong fX8_in
  simp only [Int32.lt_iff_toInt_lt, Int32.le_iff_toInt_le]
  have e : (n.toInt ≤ v.toInt) = (m.toInt < v.toInt) := by apply propext; omega
  simp only [e]
theorem betw_in (v a b : Int32) : fX7_isBetween v a b = fX8_in v a b := rfl
/-- an ill between its bounds -/
def cl (v : Int32) : Int32 := if (0 : Int32) ≤ v then (if v ≤ (20 : Int32) then v else 20) else 0
theorem clip_s (v : Int32) : fX8_clip v = some (cl v) := by unfold fX8_clip cl; (repeat' split) <;> rfl
theorem within_s (v : Int32) : fX7_withinIll v = some (cl v) := by unfold fX7_withinIll cl; (repeat' split) <;> rfl
theorem cl_rng (v : Int32) : 0 ≤ (cl v).toInt ∧ (cl v).toInt ≤ 20 := by
  unfold cl
  simp only [Int32.le_iff_toInt_le]
  split
  · split
    · rename_i h1 h2; exact ⟨h1, h2⟩
    · decide
  · decide
/-- piece p is in the set t -/
def hb (t : Int32) (p : Nat) : Bool := ((t >>> (nI p &&& 31)) &&& (1 : Int32)) = 1
theorem has_s (t : Int32) (p : Nat) : fX8_has t (nI p) = some (if hb t p then 1 else 0) := by unfold fX8_has hb; by_cases h : ((t >>> (nI p &&& 31)) &&& (1 : Int32)) = 1 <;> simp [h]
theorem sat_s (t : Int32) (p : Nat) : fX1_isSatIn t (nI p) = some (if hb t p then 1 else 0) := by unfold fX1_isSatIn hb; by_cases h : ((t >>> (nI p &&& 31)) &&& (1 : Int32)) = 1 <;> simp [h]
theorem in_nI {j a b : Nat} (h1 : a ≤ j) (h2 : j ≤ b) (hb : b < 2 ^ 31) : fX8_in (nI j) (nI a) (nI b) = some 1 := by
  unfold fX8_in
  rw [if_neg (nI_nlt h1 (by omega)), if_neg (nI_nlt h2 hb)]
theorem there_s (t : Int32) {p : Nat} (hp : p < 6) : fX1_isThere t (nI p) = some (if hb t p then 1 else 0) := by
  unfold fX1_isThere
  rw [if_neg (nI_pos (by omega)), if_neg (show ¬ (6 : Int32) ≤ nI p from nI_ge (b := 6) hp (by decide))]
  unfold hb; by_cases h : ((t >>> (nI p &&& 31)) &&& (1 : Int32)) = 1 <;> simp [h]
theorem mthere_s (t : Int32) {p : Nat} (hp : p < 6) : fX8_isThere t (nI p) = some (if hb t p then 1 else 0) := by
  unfold fX8_isThere
  rw [show fX8_in (nI p) (0 : Int32) (5 : Int32) = some 1 from in_nI (a := 0) (b := 5) (by omega) (by omega) (by decide), bd1_s, if_neg (by decide), has_s, bd1_s]
  cases hb t p <;> simp
theorem there_out (t : Int32) {v : Int32} (h : ¬ (0 ≤ v.toInt ∧ v.toInt ≤ 5)) : fX1_isThere t v = some 0 ∧ fX8_isThere t v = some 0 := by
  constructor
  · unfold fX1_isThere
    simp only [Int32.lt_iff_toInt_lt, Int32.le_iff_toInt_le]
    by_cases h1 : v.toInt < (0 : Int32).toInt
    · rw [if_pos h1]
    · rw [if_neg h1, if_pos]
      have : (0 : Int32).toInt = 0 := by decide
      have : (6 : Int32).toInt = 6 := by decide
      omega
  · unfold fX8_isThere
    rcases in_cases v 0 5 with ⟨h1, -⟩ | ⟨-, h1, h2⟩
    · rw [h1]; rfl
    · exact absurd ⟨h1, h2⟩ h
/-- is it there: both sides alike -/
theorem there_cases (t v : Int32) : (fX1_isThere t v = some 0 ∧ fX8_isThere t v = some 0) ∨ ∃ p : Nat, p < 6 ∧ v = nI p ∧ hb t p = true ∧ fX1_isThere t v = some 1 ∧ fX8_isThere t v = some 1 := by
  by_cases h : 0 ≤ v.toInt ∧ v.toInt ≤ 5
  · obtain ⟨p, hp, rfl⟩ := nI_of_toInt (n := 6) h.1 (by omega)
    rw [there_s t hp, mthere_s t hp]
    cases hb' : hb t p
    · exact Or.inl ⟨by simp, by simp⟩
    · exact Or.inr ⟨p, hp, rfl, hb', by simp, by simp⟩
  · exact Or.inl (there_out t h)
theorem pop_eq : ∀ t : Nat, t < 64 → fX8_bits FU (nI t) = fJ6_bitCount_0f7a4 (nI t) ∧ (fJ6_bitCount_0f7a4 (nI t)).isSome = true := by decide +kernel
theorem bit_or : ∀ t : Nat, t < 64 → ∀ p : Nat, p < 6 → (nI t ||| ((1 : Int32) <<< (nI p &&& 31))) = nI (t ||| 2 ^ p) ∧ t ||| 2 ^ p < 64 := by decide +kernel
theorem bit_off : ∀ t : Nat, t < 64 → ∀ p : Nat, p < 6 → (nI t &&& (((1 : Int32) <<< (nI p &&& 31)) ^^^ (-1 : Int32))) = nI (t &&& (63 - 2 ^ p)) ∧ t &&& (63 - 2 ^ p) < 64 := by decide +kernel
theorem pop64 {t : Int32} (h0 : 0 ≤ t.toInt) (h1 : t.toInt < 64) : ∃ r, fX8_bits FU t = some r ∧ fJ6_bitCount_0f7a4 t = some r := by
  obtain ⟨j, hj, rfl⟩ := nI_of_toInt (n := 64) h0 h1
  obtain ⟨h2, h3⟩ := pop_eq j hj
  obtain ⟨r, hr⟩ := Option.isSome_iff_exists.mp h3
  exact ⟨r, h2.trans hr, hr⟩
theorem or64 {t : Int32} {p : Nat} (h0 : 0 ≤ t.toInt) (h1 : t.toInt < 64) (hp : p < 6) : 0 ≤ (t ||| ((1 : Int32) <<< (nI p &&& 31))).toInt ∧ (t ||| ((1 : Int32) <<< (nI p &&& 31))).toInt < 64 := by
  obtain ⟨j, hj, rfl⟩ := nI_of_toInt (n := 64) h0 h1
  obtain ⟨e, h⟩ := bit_or j hj p hp
  rw [e, nI_toInt (by omega)]; omega
theorem off64 {t : Int32} {p : Nat} (h0 : 0 ≤ t.toInt) (h1 : t.toInt < 64) (hp : p < 6) : 0 ≤ (t &&& (((1 : Int32) <<< (nI p &&& 31)) ^^^ (-1 : Int32))).toInt ∧ (t &&& (((1 : Int32) <<< (nI p &&& 31)) ^^^ (-1 : Int32))).toInt < 64 := by
  obtain ⟨j, hj, rfl⟩ := nI_of_toInt (n := 64) h0 h1
  obtain ⟨e, h⟩ := bit_off j hj p hp
  rw [e, nI_toInt (by omega)]; omega
