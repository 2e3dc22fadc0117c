theorem ps_leave : PS_leave := by
  intro th sa hr il ro ef bf li cn be ho af le sg mo mt bk ds ba ml ms si sn pa mm hH hP hM a1
  obtain ⟨⟨v1, v2, v3, v4, v5, v6, v7, v8, v9, v10, v11⟩, h1, h2, h3, h4, h5, h6, h7, h8, h9, h10⟩ := hH
  subst h1
  unfold fX7_leave fX8_leave
  rcases there_cases mt a1 with ⟨g1, g2⟩ | ⟨p, hp, rfl, -, g1, g2⟩
  · simp only [g1, g2, bd1_s, if0]
    exact ⟨_, _, _, _, _, rfl, rfl, ⟨v1, v2, v3, v4, v5, v6, v7, v8, v9, v10, v11⟩, rfl, h2, h3, h4, h5, h6, h7, h8, h9, h10⟩
  simp only [g1, g2, bd1_s, if1]
  obtain ⟨r, hr1, hr2⟩ := pop64 (off64 (p := p) v1.1 v1.2 hp).1 (off64 (p := p) v1.1 v1.2 hp).2
  rw [nme_s, ldI_at (i := 24) (j := 24) rfl (by decide) (by decide), stI_at (i := 24) (j := 24) rfl (by decide) (by decide)]
  unfold fX1_send; rw [nme_s, nme_s]
  refine ⟨r, _, _, _, _, by rw [bd2_s, hr2]; rfl, by rw [hr1]; rfl, ⟨off64 v1.1 v1.2 hp, off64 v2.1 v2.2 hp, v3, v4, v5, v6, v7, v8, v9, v10, v11⟩, rfl, ?_, ?_, ?_, ?_, h6, h7, h8, h9, h10⟩
  · intro k hk; simp only [upd]; split
    · omega
    · exact h2 k hk
  · intro k hk; simp only [upd]; split
    · omega
    · exact h3 k hk
  · show (if 24 = 24 then _ else _) = _; rw [if_pos rfl, h4]
  · show (if 25 = 24 then _ else _) = _; rw [if_neg (by decide)]; exact h5
theorem ps_room : PS_room := by
  intro th sa hr il ro ef bf li cn be ho af le sg mo mt bk ds ba ml ms si sn pa mm hH hP hM a1 a2 a3
  unfold fX7_room fX8_room
  simp only [betw_in, among_in (v := a1) (n := 4) (m := 3) (by decide), among_in (v := a2) (n := 3) (m := 2) (by decide)]
  rcases in_cases a1 0 3 with ⟨g, -⟩ | ⟨g, b1, c1⟩
  · simp only [g, bd1_s, if0]; exact ⟨_, _, _, rfl, rfl, hH⟩
  simp only [g, bd1_s, if1]
  rcases in_cases a2 0 2 with ⟨g, -⟩ | ⟨g, b2, c2⟩
  · simp only [g, bd1_s, if0]; exact ⟨_, _, _, rfl, rfl, hH⟩
  simp only [g, bd1_s, if1]
  rcases in_cases a3 (-5) 5 with ⟨g, -⟩ | ⟨g, b3, c3⟩
  · simp only [g, bd1_s, if0]; exact ⟨_, _, _, rfl, rfl, hH⟩
  simp only [g, bd1_s, if1]
  have z0 : (0 : Int32).toInt = 0 := by decide
  have z2 : (2 : Int32).toInt = 2 := by decide
  have z3 : (3 : Int32).toInt = 3 := by decide
  have z5 : (5 : Int32).toInt = 5 := by decide
  have z6 : (-5 : Int32).toInt = -5 := by decide
  obtain ⟨p, hp, rfl⟩ := nI_of_toInt (n := 4) (x := a1) (by omega) (by omega)
  obtain ⟨q, hq, rfl⟩ := nI_of_toInt (n := 3) (x := a2) (by omega) (by omega)
  obtain ⟨⟨v1, v2, v3, v4, v5, v6, v7, v8, v9, v10, v11⟩, h1, h2, h3, h4, h5, h6, h7, h8, h9, h10⟩ := hH
  rw [nme_s, ldI_at (ix3 p q) (by omega) (by decide), stI_at (ix3 p q) (by omega) (by decide), ldI_at (iy3 p q) (by omega) (by decide), stI_at (iy3 p q) (by omega) (by decide)]
  refine ⟨_, _, _, rfl, by rw [h6 _ (by omega)], ⟨v1, v2, v3, v4, v5, ?_, v7, v8, v9, v10, v11⟩, h1, h2, h3, h4, h5, ?_, h7, h8, h9, h10⟩
  · intro k hk; simp only [upd]; split
    · omega
    · exact v6 k hk
  · intro k hk; simp only [upd]; split
    · rfl
    · exact h6 k hk
theorem ps_guest : PS_guest := by
  intro th sa hr il ro ef bf li cn be ho af le sg mo mt bk ds ba ml ms si sn pa mm hH hP hM a1 a2
  unfold fX7_guest fX8_guest
  simp only [among_in (v := a1) (n := 6) (m := 5) (by decide), among_in (v := a2) (n := 64) (m := 63) (by decide)]
  rcases in_cases a1 0 5 with ⟨g, -⟩ | ⟨g, b1, c1⟩
  · simp only [g, bd1_s, if0]; exact ⟨_, _, _, rfl, rfl, hH⟩
  simp only [g, bd1_s, if1]
  rcases in_cases a2 0 63 with ⟨g, -⟩ | ⟨g, b2, c2⟩
  · simp only [g, bd1_s, if0]; exact ⟨_, _, _, rfl, rfl, hH⟩
  simp only [g, bd1_s, if1]
  have z0 : (0 : Int32).toInt = 0 := by decide
  have z5 : (5 : Int32).toInt = 5 := by decide
  have z63 : (63 : Int32).toInt = 63 := by decide
  obtain ⟨p, hp, rfl⟩ := nI_of_toInt (n := 6) (x := a1) (by omega) (by omega)
  obtain ⟨⟨v1, v2, v3, v4, v5, v6, v7, v8, v9, v10, v11⟩, h1, h2, h3, h4, h5, h6, h7, h8, h9, h10⟩ := hH
  rw [ldI_at (j := p) rfl (by omega) (by decide), stI_at (j := p) rfl (by omega) (by decide), ldI_at (j := p) rfl (by omega) (by decide), stI_at (j := p) rfl (by omega) (by decide)]
  refine ⟨_, _, _, rfl, by rw [h8 _ (by omega)], ⟨v1, v2, v3, v4, v5, v6, v7, v8, ?_, v10, v11⟩, h1, h2, h3, h4, h5, h6, h7, ?_, h9, h10⟩
  · intro k hk; simp only [upd]; split
    · omega
    · exact v9 k hk
  · intro k hk; simp only [upd]; split
    · rfl
    · exact h8 k hk
theorem ps_bad : PS_bad := by
  intro th sa hr il ro ef bf li cn be ho af le sg mo mt bk ds ba ml ms si sn pa mm hH hP hM a1 a2 a3
  unfold fX7_bad fX8_bad fX8_areTwo
  simp only [betw_in, among_in (v := a1) (n := 6) (m := 5) (by decide), among_in (v := a2) (n := 6) (m := 5) (by decide)]
  rcases in_cases a1 0 5 with ⟨g, -⟩ | ⟨g, b1, c1⟩
  · simp only [g, bd1_s, if0]; exact ⟨_, _, _, rfl, rfl, hH⟩
  simp only [g, bd1_s, if1]
  rcases in_cases a2 0 5 with ⟨g, -⟩ | ⟨g, b2, c2⟩
  · simp only [g, bd1_s, if0]; exact ⟨_, _, _, rfl, rfl, hH⟩
  simp only [g, bd1_s, if1]
  by_cases hne : a1 = a2
  · simp only [if_pos hne, bd1_s, if0]; exact ⟨_, _, _, rfl, rfl, hH⟩
  simp only [if_neg hne, bd1_s, if1]
  rcases in_cases a3 (-3) 3 with ⟨g, -⟩ | ⟨g, b3, c3⟩
  · simp only [g, bd1_s, if0]; exact ⟨_, _, _, rfl, rfl, hH⟩
  simp only [g, bd1_s, if1]
  have z0 : (0 : Int32).toInt = 0 := by decide
  have z3 : (3 : Int32).toInt = 3 := by decide
  have z5 : (5 : Int32).toInt = 5 := by decide
  have z6 : (-3 : Int32).toInt = -3 := by decide
  obtain ⟨p, hp, rfl⟩ := nI_of_toInt (n := 6) (x := a1) (by omega) (by omega)
  obtain ⟨q, hq, rfl⟩ := nI_of_toInt (n := 6) (x := a2) (by omega) (by omega)
  have hpq : p ≠ q := fun h => hne (by rw [h])
  obtain ⟨⟨v1, v2, v3, v4, v5, v6, v7, v8, v9, v10, v11⟩, h1, h2, h3, h4, h5, h6, h7, h8, h9, h10⟩ := hH
  rw [nme_s, ldI_at (ix6 p q) (by omega) (by decide), stI_at (ix6 p q) (by omega) (by decide), ldI_at (iy6 p q) (by omega) (by decide), stI_at (iy6 p q) (by omega) (by decide)]
  refine ⟨_, _, _, rfl, by rw [h7 _ (by omega)], ⟨v1, v2, v3, v4, v5, v6, ?_, ?_, v9, v10, v11⟩, h1, h2, h3, h4, h5, h6, ?_, h8, h9, h10⟩
  · intro k hk; simp only [upd]; split
    · omega
    · exact v7 k hk
  · intro k hk; simp only [upd]; split
    · omega
    · exact v8 k hk
  · intro k hk; simp only [upd]; split
    · rfl
    · exact h7 k hk
theorem ps_say : PS_say := by
  intro th sa hr il ro ef bf li cn be ho af le sg mo mt bk ds ba ml ms si sn pa mm hH hP hM a1
  obtain ⟨e, ⟨l0, l1⟩, hk⟩ := hP
  unfold fX7_say fX8_say fX2_write fX2_isFull
  simp only [betw_in]
  rcases in_cases a1 33 126 with ⟨g, -⟩ | ⟨g, b1, c1⟩
  · simp only [g, bd1_s, if0]; exact ⟨_, _, _, _, _, rfl, rfl, e, ⟨l0, l1⟩, hk⟩
  simp only [g, bd1_s, if1]
  subst e
  obtain ⟨n, hn, rfl⟩ := nI_of_toInt (n := 61) l0 (by omega)
  by_cases h60 : n = 60
  · subst h60
    rw [if_neg (by decide), bd1_s, if1, if_pos (by decide)]
    exact ⟨_, _, _, _, _, rfl, rfl, rfl, ⟨l0, l1⟩, hk⟩
  · rw [if_pos (show nI n < 60 from nI_lt (b := 60) (by omega) (by decide)), bd1_s, if0, bd1_s, if0, if_neg (show ¬ nI n = 60 from fun h => h60 ((nI_eq (b := 60) (by omega) (by decide)).mp h)), stI_at (j := n) rfl (by omega) (by decide), stI_at (j := n) rfl (by omega) (by decide), nme_s, nme_s, bd2_s]
    refine ⟨_, _, _, _, _, rfl, rfl, rfl, ?_, ?_⟩
    · rw [show nI n + 1 = nI (n + 1) from nI_1 n, nI_toInt (by omega)]; omega
    · intro k hk2; simp only [upd]; split
      · rfl
      · exact hk k hk2
theorem ps_seen : PS_seen := by
  intro th sa hr il ro ef bf li cn be ho af le sg mo mt bk ds ba ml ms si sn pa mm hH hP hM a1 a2 a3
  unfold fX7_seen fX8_seen fX5_note fX5_isFull
  simp only [betw_in]
  rcases in_cases a1 0 20 with ⟨g, -⟩ | ⟨g, b1, c1⟩
  · simp only [g, bd1_s, if0]; exact ⟨_, _, _, _, _, _, _, rfl, rfl, hH⟩
  simp only [g, bd1_s, if1]
  rcases in_cases a2 1 9 with ⟨g, -⟩ | ⟨g, b2, c2⟩
  · simp only [g, bd1_s, if0]; exact ⟨_, _, _, _, _, _, _, rfl, rfl, hH⟩
  simp only [g, bd1_s, if1]
  rcases in_cases a3 0 20 with ⟨g, -⟩ | ⟨g, b3, c3⟩
  · simp only [g, bd1_s, if0]; exact ⟨_, _, _, _, _, _, _, rfl, rfl, hH⟩
  simp only [g, bd1_s, if1]
  have z0 : (0 : Int32).toInt = 0 := by decide
  have z1 : (1 : Int32).toInt = 1 := by decide
  have z9 : (9 : Int32).toInt = 9 := by decide
  have z20 : (20 : Int32).toInt = 20 := by decide
  obtain ⟨⟨v1, v2, v3, v4, v5, v6, v7, v8, v9, v10, v11⟩, h1, h2, h3, h4, h5, h6, h7, h8, h9, h10⟩ := hH
  subst h9
  obtain ⟨n, hn, rfl⟩ := nI_of_toInt (n := 9) v10.1 (by omega)
  by_cases h8' : n = 8
  · subst h8'
    rw [if_neg (by decide), bd1_s, if1, if_pos (by decide)]
    exact ⟨_, _, _, _, _, _, _, rfl, rfl, ⟨v1, v2, v3, v4, v5, v6, v7, v8, v9, v10, v11⟩, h1, h2, h3, h4, h5, h6, h7, h8, rfl, h10⟩
  · rw [if_pos (show nI n < 8 from nI_lt (b := 8) (by omega) (by decide)), bd1_s, if0, bd1_s, if0, if_neg (show ¬ nI n = 8 from fun h => h8' ((nI_eq (b := 8) (by omega) (by decide)).mp h)), stI_at (j := n) rfl (by omega) (by decide), stI_at (j := n) rfl (by omega) (by decide), stI_at (j := n) rfl (by omega) (by decide), nme_s, stI_at (iy30 n) (by omega) (by decide), stI_at (iy31 n) (by omega) (by decide), stI_at (iy32 n) (by omega) (by decide), nme_s, bd4_s]
    refine ⟨_, _, _, _, _, _, _, rfl, rfl, ⟨v1, v2, v3, v4, v5, v6, v7, v8, v9, ?_, ?_⟩, h1, h2, h3, h4, h5, h6, h7, h8, rfl, ?_⟩
    · rw [show nI n + 1 = nI (n + 1) from nI_1 n, nI_toInt (by omega)]; omega
    · intro k hk; simp only [upd]; split
      · omega
      · exact v11 k hk
    · intro k hk; simp only [upd]
      refine ⟨?_, ?_, ?_⟩ <;> repeat' split
      all_goals first | omega | rfl | exact (h10 k hk).1 | exact (h10 k hk).2.1 | exact (h10 k hk).2.2
