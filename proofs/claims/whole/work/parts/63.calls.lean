theorem i_n {q : Nat} {x : Int32} {μ : Mem} {d : BD} (h : BKc q μ d) (hm : BKm μ d) (hx : x < 0 ∨ nI (d 0 0) ≤ x) : f_X1_hasLeft q x μ = some (nI 0, μ) ∧ f_X5_isLeft x μ = some (nI 0, μ) := ⟨c_hasLeft_n h.1 hx, m_isLeft_n hm.1 hx⟩
theorem ix7 {x : Int32} {n : Nat} (h : n ≤ 7) : (x < 0 ∨ nI n ≤ x) ∨ ∃ j, j < n ∧ x = nI j := by
  rcases pk_ix x (n := n) (by omega) with a | a | ⟨j, a, b⟩
  · exact .inl (.inl a)
  · exact .inl (.inr a)
  · exact .inr ⟨j, a, b⟩
theorem t_as (x y : Int32) (μ : Mem) (h : Inv μ) : ∃ (r : Int32) (μ1 μ2 : Mem), f_X4_as x y μ = some (r, μ1) ∧ f_X5_as x y μ1 = some (r, μ2) ∧ Inv μ2 := by
  obtain ⟨⟨d, hI⟩, ht, hf⟩ := h
  have hJ : Iv (up μ 0 11 0) d := Iv_u0 hI (by omega)
  have hK : Iv (up (up μ 0 11 0) 43 0 0) d := Iv_u43 hJ (by omega)
  have w := hI.1
  have hm := hK.2.2.1
  have hb := hJ.2.1
  have base : ∀ r : Int32, f_X4_as x y μ = some (r, up μ 0 11 0) → f_X5_as x y (up μ 0 11 0) = some (r, up (up μ 0 11 0) 43 0 0) → ∃ (r : Int32) (μ1 μ2 : Mem), f_X4_as x y μ = some (r, μ1) ∧ f_X5_as x y μ1 = some (r, μ2) ∧ Inv μ2 :=
    fun r a b => ⟨r, _, _, a, b, ⟨d, hK⟩, by simpa [up_if] using ht, by simp [up_if]⟩
  rcases ix7 (x := x) w.1 with hx | ⟨j, hj, rfl⟩
  · apply base (-1)
    · simp only [f_X4_as, lt_eq, c_hasLeft_n hb.1 hx, b2_some, e00, if_true]
    · simp only [f_X5_as, lt_eq, m_isLeft_n hm.1 hx, b2_some, e00, if_true]
  · have hj7 : j < 7 := by have := w.1; omega
    have k1 := (hb.2.2.2.2.2.1 j hj).1
    have k2 := (hm.2.2.2.2.2.1 j hj).1
    have k3 := (w.2.2.2.2.2.1 j hj).1
    have k9 : d 0 0 < 2147483648 := by have := w.1; omega
    rcases ix7 (x := y) (n := 3) (by omega) with hy | ⟨l, hl, rfl⟩
    · apply base (-2)
      · simp only [f_X4_as, lt_eq, c_hasLeft_y hb.1 k9 hj, b2_some, e10, if_false]
        rcases hy with hy | hy
        · rw [if_pos hy]
        · rw [if_neg (nn_of hy (by omega)), if_neg (Int32.not_le.mpr (by rw [l_2, le_succ (by omega)]; exact hy))]
      · have := wi_n (x := y) (lo := 0) (hi := 2) (μ := up (up μ 0 11 0) 43 0 0) (by rw [l_2, le_succ (by omega)]; exact hy)
        simp only [f_X5_as, lt_eq, m_isLeft_y hm.1 k9 hj, b2_some, e10, if_false, this, e00, if_true]
    · by_cases hk : d 1 j < l
      · refine ⟨-10 - 2, up (up μ 0 11 0) 0 11 2, up (up (up (up μ 0 11 0) 0 11 2) 43 0 0) 43 0 2, ?_, ?_, ⟨d, Iv_u43 (Iv_u43 (Iv_u0 hJ (by omega)) (by omega)) (by omega)⟩, by simpa [up_if] using ht, by simp [up_if]⟩
        · simp only [f_X4_as, lt_eq]
          generalize up μ 0 11 0 = ν at hb k1 ⊢
          simp (disch := omega) only [c_hasLeft_y hb.1 k9 hj, b2_some, e10, if_false, l_0, l_2, q_lt, q_le, q_ck, q_cl]
          rw [if_neg (by decide), if_neg (by omega), if_pos (by omega)]
          simp (disch := omega) only [Nat.reduceAdd] at k1
          simp (disch := omega) only [k1, q_lt, hk, if_true, f_X4_failed, lt_eq, b2_some]
        · have hJ2 : Iv (up (up μ 0 11 0) 0 11 2) d := Iv_u0 hJ (by omega)
          have hm2 := (Iv_u43 (i := 0) (v := 0) hJ2 (by omega)).2.2.1
          have k2 := (hm2.2.2.2.2.2.1 j hj).1
          simp only [f_X5_as, lt_eq]
          generalize up (up (up μ 0 11 0) 0 11 2) 43 0 0 = ν at hm2 k2 ⊢
          simp (disch := omega) only [m_isLeft_y hm2.1 k9 hj, b2_some, e10, if_false, l_0, l_2, wi_j, q_ck, q_cl]
          rw [if_neg (by decide), if_neg (by decide)]
          simp (disch := omega) only [k2, q_lt, hk, if_true, f_X5_fails, lt_eq, b2_some]
      · apply base 1
        · simp only [f_X4_as, lt_eq]
          generalize up μ 0 11 0 = ν at hb k1 ⊢
          simp (disch := omega) only [c_hasLeft_y hb.1 k9 hj, b2_some, e10, if_false, l_0, l_2, q_lt, q_le, q_ck, q_cl]
          rw [if_neg (by decide), if_neg (by omega), if_pos (by omega)]
          simp (disch := omega) only [Nat.reduceAdd] at k1
          simp (disch := omega) only [k1, q_lt, hk, if_false]
        · simp only [f_X5_as, lt_eq]
          generalize up (up μ 0 11 0) 43 0 0 = ν at hm k2 ⊢
          simp (disch := omega) only [m_isLeft_y hm.1 k9 hj, b2_some, e10, if_false, l_0, l_2, wi_j, q_ck, q_cl]
          rw [if_neg (by decide), if_neg (by decide)]
          simp (disch := omega) only [k2, q_lt, hk, if_false]
theorem Iv_tr {μ : Mem} {d : BD} {v : Int32} (h : Iv μ d) : Iv (up μ 0 10 v) d := Iv_u0 h (by omega)
theorem Iv_trm {μ : Mem} {d : BD} {v : Int32} (h : Iv μ d) : Iv (up μ 43 1 v) d := Iv_u43 h (by omega)
theorem up2 (μ : Mem) (c i : Nat) (v w : Int32) : up (up μ c i v) c i w = up μ c i w := by
  funext a b
  simp only [up_if]
  split <;> rfl
theorem t_tr {x : Int32} {μ : Mem} {d : BD} (hI : Iv μ d) (hf : μ 0 11 = μ 43 0) (v : Int32) : Inv (up (up μ 0 10 v) 43 1 v) := ⟨⟨d, Iv_trm (Iv_tr hI)⟩, by simp [up_if], by simpa [up_if] using hf⟩
theorem t_tell (x : Int32) (μ : Mem) (h : Inv μ) : ∃ (r : Int32) (μ1 μ2 : Mem), f_X4_tell x μ = some (r, μ1) ∧ f_X5_tell x μ1 = some (r, μ2) ∧ Inv μ2 := by
  have hI' := h
  obtain ⟨⟨d, hI⟩, ht, hf⟩ := h
  have w := hI.1
  have hm := hI.2.2.1
  have hb := hI.2.1
  rcases ix7 (x := x) w.1 with hx | ⟨j, hj, rfl⟩
  · refine ⟨-1, μ, μ, ?_, ?_, hI'⟩
    · simp only [f_X4_tell, c_hasLeft_n hb.1 hx, b2_some, e00, if_true]
    · simp only [f_X5_tell, m_isLeft_n hm.1 hx, b2_some, e00, if_true]
  · have hj7 : j < 7 := by have := w.1; omega
    obtain ⟨k1, k2, _⟩ := hb.2.2.2.2.2.1 j hj
    obtain ⟨m1, m2, _⟩ := hm.2.2.2.2.2.1 j hj
    simp only [Nat.reduceAdd] at k1 k2
    have k3 := (w.2.2.2.2.2.1 j hj).1
    have k9 : d 0 0 < 2147483648 := by have := w.1; omega
    have X : ∀ T : Int32, ∃ ν, up μ 0 10 T = ν ∧ ν 43 5 = nI (d 0 0) ∧ ν 47 j = nI (d 1 j) ∧ ν 48 j = nI (d 2 j) ∧ ν 43 1 = μ 0 10 := fun T => ⟨_, rfl, by rw [up_ne (by omega)]; exact hm.1, by rw [up_ne (by omega)]; exact m1, by rw [up_ne (by omega)]; exact m2, by rw [up_ne (by omega)]; exact ht.symm⟩
    rcases (show d 1 j = 0 ∨ d 1 j = 1 ∨ d 1 j = 2 by omega) with e | e | e
    · refine ⟨nI (d 2 j), up μ 0 10 (31 * μ 0 10 + 1), up (up μ 0 10 (31 * μ 0 10 + 1)) 43 1 (31 * μ 0 10 + 1), ?_, ?_, t_tr (x := 0) hI hf _⟩
      · simp (disch := omega) only [f_X4_tell, c_hasLeft_y hb.1 k9 hj, b2_some, e10, if_false, q_ck, lt_eq, q_cl, k1, e, l_1, l_2, q_eq, f_X4_plainBody, f_X4_leaveTrace, b1_some, up_ne, k2]
        rfl
      · obtain ⟨ν, n0, n1, n2, n3, n4⟩ := X (31 * μ 0 10 + 1)
        rw [n0]
        simp (disch := omega) only [f_X5_tell, m_isLeft_y n1 k9 hj, b2_some, e10, if_false, q_ck, lt_eq, q_cl, n2, n3, e, l_1, l_2, q_eq, f_X5_begins, b1_some, n4]
        rfl
    · refine ⟨nI (d 2 j) + 100, up μ 0 10 (31 * (31 * μ 0 10 + 2) + 1), up (up μ 0 10 (31 * (31 * μ 0 10 + 2) + 1)) 43 1 (31 * (31 * μ 0 10 + 2) + 1), ?_, ?_, t_tr (x := 0) hI hf _⟩
      · simp (disch := omega) only [f_X4_tell, c_hasLeft_y hb.1 k9 hj, b2_some, e10, if_false, q_ck, lt_eq, q_cl, k1, e, if_true, l_1, l_2, q_eq, f_X4_longBody, f_X4_plainBody, f_X4_leaveTrace, b1_some, up_ne, k2, up_at, up2]
      · obtain ⟨ν, n0, n1, n2, n3, n4⟩ := X (31 * (31 * μ 0 10 + 2) + 1)
        rw [n0]
        simp (disch := omega) only [f_X5_tell, m_isLeft_y n1 k9 hj, b2_some, e10, if_false, q_ck, lt_eq, q_cl, n2, n3, e, if_true, l_1, l_2, q_eq, f_X5_begins, b1_some, n4, up_at, up2]
    · refine ⟨nI (d 2 j) + 100 + nI (d 2 j), up μ 0 10 (31 * (31 * (31 * (31 * μ 0 10 + 3) + 2) + 1) + 1), up (up μ 0 10 (31 * (31 * (31 * (31 * μ 0 10 + 3) + 2) + 1) + 1)) 43 1 (31 * (31 * (31 * (31 * μ 0 10 + 3) + 2) + 1) + 1), ?_, ?_, t_tr (x := 0) hI hf _⟩
      · simp (disch := omega) only [f_X4_tell, c_hasLeft_y hb.1 k9 hj, b2_some, e10, if_false, q_ck, lt_eq, q_cl, k1, e, if_true, l_1, l_2, q_eq, f_X4_doubleBody, f_X4_longBody, f_X4_plainBody, f_X4_leaveTrace, b1_some, up_ne, k2, up_at, up2]
        rfl
      · obtain ⟨ν, n0, n1, n2, n3, n4⟩ := X (31 * (31 * (31 * (31 * μ 0 10 + 3) + 2) + 1) + 1)
        rw [n0]
        simp (disch := omega) only [f_X5_tell, m_isLeft_y n1 k9 hj, b2_some, e10, if_false, q_ck, lt_eq, q_cl, n2, n3, e, if_true, l_1, l_2, q_eq, f_X5_begins, b1_some, n4, up_at, up2]
        rw [if_neg (by decide), show (100 : Int32) = nI 100 from rfl, q_mul, q_add, q_add, q_add, show 2 * d 2 j + 100 = d 2 j + 100 + d 2 j by omega]
theorem t_read (x : Int32) (μ : Mem) (h : Inv μ) : ∃ (r : Int32) (μ1 μ2 : Mem), f_X4_read x μ = some (r, μ1) ∧ f_X5_read x μ1 = some (r, μ2) ∧ Inv μ2 := by
  have hI' := h
  obtain ⟨⟨d, hI⟩, ht, hf⟩ := h
  have w := hI.1
  have hm := hI.2.2.1
  have hb := hI.2.1
  rcases ix7 (x := x) w.1 with hx | ⟨j, hj, rfl⟩
  · refine ⟨-1, μ, μ, ?_, ?_, hI'⟩
    · simp only [f_X4_read, c_hasLeft_n hb.1 hx, b2_some, e00, if_true]
    · simp only [f_X5_read, m_isLeft_n hm.1 hx, b2_some, e00, if_true]
  · have hj7 : j < 7 := by have := w.1; omega
    obtain ⟨k1, _, k2⟩ := hb.2.2.2.2.2.1 j hj
    obtain ⟨m1, _, m2⟩ := hm.2.2.2.2.2.1 j hj
    simp only [Nat.reduceAdd] at k1 k2
    have k3 := (w.2.2.2.2.2.1 j hj).1
    have k9 : d 0 0 < 2147483648 := by have := w.1; omega
    have X : ∀ T : Int32, ∃ ν, up μ 0 10 T = ν ∧ ν 43 5 = nI (d 0 0) ∧ ν 47 j = nI (d 1 j) ∧ ν 49 j = nI (d 3 j) ∧ ν 43 1 = μ 0 10 := fun T => ⟨_, rfl, by rw [up_ne (by omega)]; exact hm.1, by rw [up_ne (by omega)]; exact m1, by rw [up_ne (by omega)]; exact m2, by rw [up_ne (by omega)]; exact ht.symm⟩
    by_cases e : d 1 j = 2
    · refine ⟨nI (d 3 j) + 80, up μ 0 10 (31 * (31 * μ 0 10 + 5) + 4), up (up μ 0 10 (31 * (31 * μ 0 10 + 5) + 4)) 43 1 (31 * (31 * μ 0 10 + 5) + 4), ?_, ?_, t_tr (x := 0) hI hf _⟩
      · simp (disch := omega) only [f_X4_read, c_hasLeft_y hb.1 k9 hj, b2_some, e10, if_false, q_ck, lt_eq, q_cl, k1, e, if_true, l_2, f_X4_doublesOwnBody, f_X4_lentBody, f_X4_leaveTrace, b1_some, up_ne, k2, up_at, up2]
      · obtain ⟨ν, n0, n1, n2, n3, n4⟩ := X (31 * (31 * μ 0 10 + 5) + 4)
        rw [n0]
        simp (disch := omega) only [f_X5_read, jn_X5_read_25, m_isLeft_y n1 k9 hj, b2_some, e10, if_false, q_ck, lt_eq, q_cl, n2, n3, e, if_true, l_2, f_X5_begins, b1_some, n4, up_at, up2, up_ne]
    · refine ⟨nI (d 3 j), up μ 0 10 (31 * μ 0 10 + 4), up (up μ 0 10 (31 * μ 0 10 + 4)) 43 1 (31 * μ 0 10 + 4), ?_, ?_, t_tr (x := 0) hI hf _⟩
      · simp (disch := omega) only [f_X4_read, c_hasLeft_y hb.1 k9 hj, b2_some, e10, if_false, q_ck, lt_eq, q_cl, k1, e, if_false, l_2, q_eq, f_X4_lentBody, f_X4_leaveTrace, b1_some, up_ne, k2, up_at, up2]
      · obtain ⟨ν, n0, n1, n2, n3, n4⟩ := X (31 * μ 0 10 + 4)
        rw [n0]
        simp (disch := omega) only [f_X5_read, jn_X5_read_25, m_isLeft_y n1 k9 hj, b2_some, e10, if_false, q_ck, lt_eq, q_cl, n2, n3, e, if_false, l_2, q_eq, f_X5_begins, b1_some, n4, up_at, up2, up_ne]
