theorem t_ofLeft (x y : Int32) (μ : Mem) (h : Inv μ) : ∃ (r : Int32) (μ1 μ2 : Mem), f_X4_ofLeft x y μ = some (r, μ1) ∧ f_X5_ofLeft x y μ1 = some (r, μ2) ∧ Inv μ2 := by
  have hI' := h
  obtain ⟨⟨d, hI⟩, ht, hf⟩ := h
  have w := hI.1
  have hm := hI.2.2.1
  have hb := hI.2.1
  have w1 : d 0 0 < 2147483648 := by have := w.1; omega
  rcases ix7 (x := x) w.1 with hx | ⟨j, hj, rfl⟩
  · exact ⟨-1, μ, μ, by simp only [f_X4_ofLeft, c_hasLeft_n hb.1 hx, b2_some, e00, if_true], by simp only [f_X5_ofLeft, m_isLeft_n hm.1 hx, b2_some, e00, if_true], hI'⟩
  · have hj7 : j < 7 := by have := w.1; omega
    obtain ⟨k1, k2, k3⟩ := hb.2.2.2.2.2.1 j hj
    obtain ⟨m1, m2, m3⟩ := hm.2.2.2.2.2.1 j hj
    simp only [Nat.reduceAdd] at k1 k2 k3
    by_cases c4 : y = 4
    · subst c4
      obtain ⟨μ1, a0, a1, a2, a3, a4⟩ := c_aon hI
      obtain ⟨μ2, b0, b1', b2', b3', b4'⟩ := m_fbI a1
      obtain ⟨v, e1, e2⟩ := rwE w hj7 a2 b2'
      refine ⟨v, μ1, μ2, ?_, ?_, Inv_ab ht hf a3 a4 b1' b3' b4'⟩
      · simp only [f_X4_ofLeft, c_hasLeft_y hb.1 w1 hj, b2_some, e10, if_false]
        rw [if_neg (by decide), if_neg (by decide), if_neg (by decide), if_neg (by decide), if_pos trivial, a0, b1_some, e1]; rfl
      · simp only [f_X5_ofLeft, m_isLeft_y a1.2.2.1.1 w1 hj, b2_some, e10, if_false]
        rw [if_neg (by decide), if_neg (by decide), if_neg (by decide), if_neg (by decide), if_pos trivial, b0, b2_some, e2]; rfl
    · simp only [f_X4_ofLeft, f_X5_ofLeft, c_hasLeft_y hb.1 w1 hj, b2_some, e10, if_false, c4, c_leftLength hb w hj]
      simp (disch := omega) only [q_ck, q_cl, k1, k2, k3]
      by_cases c0 : y = 0
      · exact ⟨_, μ, μ, if_pos c0, by simp (disch := omega) only [m_isLeft_y hm.1 w1 hj, b2_some, e10, if_false, c0, if_true, q_ck, q_cl, m1], hI'⟩
      · by_cases c1 : y = 1
        · exact ⟨_, μ, μ, by rw [if_neg c0, if_pos c1], by simp (disch := omega) only [m_isLeft_y hm.1 w1 hj, b2_some, e10, if_false, c0, c1, if_true, q_ck, q_cl, m2]; rfl, hI'⟩
        · by_cases c2 : y = 2
          · exact ⟨_, μ, μ, by rw [if_neg c0, if_neg c1, if_pos c2], by simp (disch := omega) only [m_isLeft_y hm.1 w1 hj, b2_some, e10, if_false, c0, c1, c2, if_true, m_lengthOf hm w hj]; rfl, hI'⟩
          · by_cases c3 : y = 3
            · exact ⟨_, μ, μ, by rw [if_neg c0, if_neg c1, if_neg c2, if_pos c3], by simp (disch := omega) only [m_isLeft_y hm.1 w1 hj, b2_some, e10, if_false, c0, c1, c2, c3, if_true, q_ck, q_cl, m3]; rfl, hI'⟩
            · exact ⟨_, μ, μ, by rw [if_neg c0, if_neg c1, if_neg c2, if_neg c3], by simp only [m_isLeft_y hm.1 w1 hj, b2_some, e10, if_false, c0, c1, c2, c3], hI'⟩
theorem t_ofRight (x y : Int32) (μ : Mem) (h : Inv μ) : ∃ (r : Int32) (μ1 μ2 : Mem), f_X4_ofRight x y μ = some (r, μ1) ∧ f_X5_ofRight x y μ1 = some (r, μ2) ∧ Inv μ2 := by
  have hI' := h
  obtain ⟨⟨d, hI⟩, ht, hf⟩ := h
  have w := hI.1
  have hm := hI.2.2.1
  have hb := hI.2.1
  have w1 : d 0 1 < 2147483648 := by have := w.2.1; omega
  rcases ix7 (x := x) w.2.1 with hx | ⟨j, hj, rfl⟩
  · exact ⟨-1, μ, μ, by simp only [f_X4_ofRight, c_hasRight_n hb.2.1 hx, b2_some, e00, if_true], by simp only [f_X5_ofRight, m_isRight_n hm.2.1 hx, b2_some, e00, if_true], hI'⟩
  · have hj7 : j < 7 := by have := w.2.1; omega
    obtain ⟨k1, k2⟩ := hb.2.2.2.2.2.2 j hj
    obtain ⟨m1, m2⟩ := hm.2.2.2.2.2.2 j hj
    simp only [Nat.reduceAdd] at k1 k2
    by_cases c4 : y = 2
    · subst c4
      obtain ⟨μ1, a0, a1, a2, a3, a4⟩ := c_aon hI
      obtain ⟨μ2, b0, b1', b2', b3', b4'⟩ := m_fbI a1
      obtain ⟨v, e1, e2⟩ := lwE w hj7 a2 b2'
      refine ⟨v, μ1, μ2, ?_, ?_, Inv_ab ht hf a3 a4 b1' b3' b4'⟩
      · simp only [f_X4_ofRight, c_hasRight_y hb.2.1 w1 hj, b2_some, e10, if_false]
        rw [if_neg (by decide), if_neg (by decide), if_pos trivial, a0, b1_some, e1]; rfl
      · simp only [f_X5_ofRight, m_isRight_y a1.2.2.1.2.1 w1 hj, b2_some, e10, if_false]
        rw [if_pos trivial, b0, b2_some, e2]; rfl
    · simp only [f_X4_ofRight, f_X5_ofRight, c_hasRight_y hb.2.1 w1 hj, b2_some, e10, if_false, c4]
      simp (disch := omega) only [q_ck, q_cl, k1, k2]
      by_cases c0 : y = 0
      · exact ⟨_, μ, μ, if_pos c0, by simp (disch := omega) only [m_isRight_y hm.2.1 w1 hj, b2_some, e10, if_false, c0, if_true, q_ck, q_cl, m1], hI'⟩
      · by_cases c1 : y = 1
        · exact ⟨_, μ, μ, by rw [if_neg c0, if_pos c1], by simp (disch := omega) only [m_isRight_y hm.2.1 w1 hj, b2_some, e10, if_false, c0, c1, if_true, q_ck, q_cl, m2]; rfl, hI'⟩
        · exact ⟨_, μ, μ, by rw [if_neg c0, if_neg c1], by simp only [m_isRight_y hm.2.1 w1 hj, b2_some, e10, if_false, c0, c1], hI'⟩
theorem t_ofPair (x y : Int32) (μ : Mem) (h : Inv μ) : ∃ (r : Int32) (μ1 μ2 : Mem), f_X4_ofPair x y μ = some (r, μ1) ∧ f_X5_ofPair x y μ1 = some (r, μ2) ∧ Inv μ2 := by
  obtain ⟨⟨d, hI⟩, ht, hf⟩ := h
  have w := hI.1
  obtain ⟨μ1, a0, a1, a2, a3, a4⟩ := c_aon hI
  obtain ⟨μ2, b0, b1', b2', b3', b4'⟩ := m_fbI a1
  obtain ⟨K, q1, q2, q3, q4, q5⟩ := PA_two w a2.2.2.2.2 b2'.2.2.2
  have fin : Inv μ2 := Inv_ab ht hf a3 a4 b1' b3' b4'
  suffices H : ∃ r, f_X4_ofPair x y μ = some (r, μ1) ∧ f_X5_ofPair x y μ1 = some (r, μ2) by
    obtain ⟨r, u, v⟩ := H
    exact ⟨r, μ1, μ2, u, v, fin⟩
  simp only [f_X4_ofPair, f_X5_ofPair, a0, b1_some, b0, b2_some, q2, q3]
  rcases ix7' (x := x) (n := K) (by omega) with hx | ⟨j, hj, rfl⟩
  · refine ⟨-1, ?_, ?_⟩
    · rcases hx with hx | hx
      · rw [if_pos hx]
      · rw [if_neg (nn_of hx (by omega)), if_neg (Int32.not_lt.mpr hx)]
    · rcases hx with hx | hx
      · rw [if_pos hx]
      · rw [if_neg (nn_of hx (by omega)), if_neg (Int32.not_lt.mpr hx)]
  · obtain ⟨⟨s1, s2⟩, ⟨u1, u2, u3⟩, v1, v2, v3⟩ := q5 j hj
    have w1 := w.1
    have w2 := w.2.1
    have hv := s2
    obtain ⟨s3, s4⟩ := s2
    have pcE := a2.1 (srt d (d 0 4) j) (pos d (d 0 4) j).1 (pos d (d 0 4) j).2 s1 (by omega) (by omega)
    rw [show pcv d (srt d (d 0 4) j) (pos d (d 0 4) j).1 (pos d (d 0 4) j).2 = cst d (srt d (d 0 4) j) (pos d (d 0 4) j).1 (pos d (d 0 4) j).2 from if_pos ⟨s3, s4⟩] at pcE
    have mC := m_costOf b1'.2.2.1 w s1 hv
    revert u1 u2 u3 v1 v2 v3 pcE mC
    generalize cst d (srt d (d 0 4) j) (pos d (d 0 4) j).1 (pos d (d 0 4) j).2 = C
    generalize hs : srt d (d 0 4) j = S at *
    generalize hA : (pos d (d 0 4) j).1 = A at *
    generalize hB : (pos d (d 0 4) j).2 = B at *
    intro u1 u2 u3 v1 v2 v3 pcE mC
    simp only [Nat.reduceAdd] at u1 u2 u3 pcE
    rw [show 64 * S + 8 * A + B = S * 64 + A * 8 + B by omega] at pcE
    have jlt : nI j < nI K := by rw [q_lt (by omega) (by omega)]; omega
    simp only [nI_pos (show j < 2147483648 by omega), if_false, jlt, if_true]
    simp (disch := omega) only [q_ck, q_cl, u1, u2, u3, v1, v2, v3, mC, f_X0_costOfPair, l_64, l_8, q_mul, q_add, b2_some, pcE, Nat.reduceAdd]
    by_cases c0 : y = 0
    · exact ⟨_, if_pos c0, if_pos c0⟩
    · by_cases c1 : y = 1
      · exact ⟨_, (by rw [if_neg c0, if_pos c1]), (by rw [if_neg c0, if_pos c1])⟩
      · by_cases c2 : y = 2
        · exact ⟨_, (by rw [if_neg c0, if_neg c1, if_pos c2]), (by rw [if_neg c0, if_neg c1, if_pos c2])⟩
        · by_cases c3 : y = 3
          · exact ⟨_, (by rw [if_neg c0, if_neg c1, if_neg c2, if_pos c3]), (by rw [if_neg c0, if_neg c1, if_neg c2, if_pos c3])⟩
          · exact ⟨_, (by rw [if_neg c0, if_neg c1, if_neg c2, if_neg c3]), (by rw [if_neg c0, if_neg c1, if_neg c2, if_neg c3])⟩
