/-! the plain operations -/
section PE
variable {α : Type}
theorem if0 {a b : α} : (if (0 : Int32) = 0 then a else b) = a := if_pos rfl
theorem if1 {a b : α} : (if (1 : Int32) = 0 then a else b) = b := if_neg (by decide)
theorem ix30 (j : Nat) : nI j * 3 + 0 = nI (3 * j) := by simp [nI, Int32.mul_comm]
theorem ix31 (j : Nat) : nI j * 3 + 1 = nI (3 * j + 1) := by simp [nI, Int32.mul_comm]
theorem ix32 (j : Nat) : nI j * 3 + 2 = nI (3 * j + 2) := by simp [nI, Int32.mul_comm]
theorem iy30 (j : Nat) : 3 * nI j = nI (3 * j) := by simp [nI]
theorem iy31 (j : Nat) : 3 * nI j + 1 = nI (3 * j + 1) := by simp [nI]
theorem iy32 (j : Nat) : 3 * nI j + 2 = nI (3 * j + 2) := by simp [nI]
theorem iz18 (j : Nat) : 18 + nI j = nI (18 + j) := by simp [nI]
theorem ix3 (j i : Nat) : nI j * 3 + nI i = nI (3 * j + i) := by simp [nI, Int32.mul_comm]
theorem iy3 (j i : Nat) : 3 * nI j + nI i = nI (3 * j + i) := by simp [nI]
theorem ix6 (j i : Nat) : nI j * 6 + nI i = nI (6 * j + i) := by simp [nI, Int32.mul_comm]
theorem iy6 (j i : Nat) : 6 * nI j + nI i = nI (6 * j + i) := by simp [nI]
end PE
theorem ps_wipe : PS_wipe := by
  intro t_house_there t_house_sat t_house_hour t_house_ills t_house_roomOf t_house_effects t_house_badFor t_house_likes t_house_sights_count t_house_sights_before t_house_sights_hours t_house_sights_after t_pad_length t_pad_signs t_seating_most m_there m_book m_does m_bad m_likes m_sights m_sight m_signs m_pad m_most hH hP hM _
  obtain ⟨e, hb, hk⟩ := hP
  exact ⟨_, _, _, rfl, by rw [e]; rfl, rfl, by decide, hk⟩
theorem ps_forget : PS_forget := by
  intro t_house_there t_house_sat t_house_hour t_house_ills t_house_roomOf t_house_effects t_house_badFor t_house_likes t_house_sights_count t_house_sights_before t_house_sights_hours t_house_sights_after t_pad_length t_pad_signs t_seating_most m_there m_book m_does m_bad m_likes m_sights m_sight m_signs m_pad m_most hH hP hM _
  obtain ⟨⟨v1, v2, v3, v4, v5, v6, v7, v8, v9, v10, v11⟩, h1, h2, h3, h4, h5, h6, h7, h8, h9, h10⟩ := hH
  exact ⟨_, _, _, rfl, by rw [h9]; rfl, ⟨v1, v2, v3, v4, v5, v6, v7, v8, v9, by decide, v11⟩, h1, h2, h3, h4, h5, h6, h7, h8, rfl, h10⟩
set_option maxHeartbeats 1000000 in
set_option maxRecDepth 100000 in
theorem ps_piece : PS_piece := by
  intro t_house_there t_house_sat t_house_hour t_house_ills t_house_roomOf t_house_effects t_house_badFor t_house_likes t_house_sights_count t_house_sights_before t_house_sights_hours t_house_sights_after t_pad_length t_pad_signs t_seating_most m_there m_book m_does m_bad m_likes m_sights m_sight m_signs m_pad m_most hH hP hM a1 a2 a3 a4
  unfold fX7_piece fX8_piece
  simp only [betw_in, among_in (v := a1) (n := 6) (m := 5) (by decide)]
  rcases in_cases a1 0 5 with ⟨g, -⟩ | ⟨g, b1, c1⟩
  · simp only [g, bd1_s, if0]; exact ⟨_, _, _, _, _, _, _, rfl, rfl, hH⟩
  simp only [g, bd1_s, if1]
  rcases in_cases a2 0 20 with ⟨g, -⟩ | ⟨g, b2, c2⟩
  · simp only [g, bd1_s, if0]; exact ⟨_, _, _, _, _, _, _, rfl, rfl, hH⟩
  simp only [g, bd1_s, if1]
  rcases in_cases a3 0 20 with ⟨g, -⟩ | ⟨g, b3, c3⟩
  · simp only [g, bd1_s, if0]; exact ⟨_, _, _, _, _, _, _, rfl, rfl, hH⟩
  simp only [g, bd1_s, if1]
  rcases in_cases a4 0 20 with ⟨g, -⟩ | ⟨g, b4, c4⟩
  · simp only [g, bd1_s, if0]; exact ⟨_, _, _, _, _, _, _, rfl, rfl, hH⟩
  simp only [g, bd1_s, if1]
  have z0 : (0 : Int32).toInt = 0 := by decide
  have z5 : (5 : Int32).toInt = 5 := by decide
  have z20 : (20 : Int32).toInt = 20 := by decide
  obtain ⟨p, hp, rfl⟩ := nI_of_toInt (n := 6) (x := a1) (by omega) (by omega)
  obtain ⟨⟨v1, v2, v3, v4, v5, v6, v7, v8, v9, v10, v11⟩, h1, h2, h3, h4, h5, h6, h7, h8, h9, h10⟩ := hH
  subst h1
  obtain ⟨r, hr1, hr2⟩ := pop64 (or64 (p := p) v1.1 v1.2 hp).1 (or64 (p := p) v1.1 v1.2 hp).2
  unfold fX1_house5
  rw [nme_s, nme_s, stI_at (j := p) rfl hp (by decide), stI_at (ix30 p) (by omega) (by decide), stI_at (ix31 p) (by omega) (by decide), stI_at (ix32 p) (by omega) (by decide)]
  rw [nme_s, stI_at (iy30 p) (by omega) (by decide), stI_at (iy31 p) (by omega) (by decide), stI_at (iy32 p) (by omega) (by decide), stI_at (iz18 p) (by omega) (by decide), ldI_at (i := 24) (j := 24) rfl (by decide) (by decide), stI_at (i := 24) (j := 24) rfl (by decide) (by decide)]
  refine ⟨r, _, _, _, _, _, _, by rw [bd4_s, hr2]; rfl, by rw [hr1]; rfl, ⟨or64 v1.1 v1.2 hp, off64 v2.1 v2.2 hp, v3, ?_, ?_, v6, v7, v8, v9, v10, v11⟩, rfl, ?_, ?_, ?_, ?_, h6, h7, h8, h9, h10⟩
  · intro k hk; simp only [upd]; repeat' split
    all_goals first | omega | exact v4 k hk
  · intro k hk; simp only [upd]; split
    · decide
    · exact v5 k hk
  · intro k hk; simp only [upd]; repeat' split
    all_goals first | omega | rfl | exact h2 k hk
  · intro k hk; simp only [upd]; repeat' split
    all_goals first | omega | rfl | exact h3 k hk
  · show (if 24 = 24 then _ else _) = _; rw [if_pos rfl]
    simp only [upd]; repeat' split
    all_goals first | omega | rw [h4]
  · show (if 25 = 24 then _ else _) = _; rw [if_neg (by decide)]
    simp only [upd]; repeat' split
    all_goals first | omega | exact h5
