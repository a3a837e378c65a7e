theorem sh4_n {x : Int32} {μ : Mem} (h : x < 0 ∨ nI 4 ≤ x) : f_X4_isSheet x μ = some (nI 0, μ) := by
  unfold f_X4_isSheet
  by_cases h1 : x < 0
  · rw [if_pos h1]; rfl
  · rw [if_neg h1, l_4, if_pos (h.resolve_left h1)]; rfl
theorem wi_n {x lo hi : Int32} {μ : Mem} (h : x < lo ∨ hi < x) : f_X5_within x lo hi μ = some (nI 0, μ) := by
  unfold f_X5_within
  by_cases h1 : x < lo
  · rw [if_pos h1]; rfl
  · rw [if_neg h1, if_pos (h.resolve_left h1)]; rfl
theorem wi_y {x lo hi : Int32} {μ : Mem} (h1 : ¬ x < lo) (h2 : ¬ hi < x) : f_X5_within x lo hi μ = some (nI 1, μ) := by
  unfold f_X5_within
  rw [if_neg h1, if_neg h2]; rfl
theorem wi_j {x lo hi : Nat} {μ : Mem} (h1 : lo ≤ x) (h2 : x ≤ hi) (h : hi < 2147483648) : f_X5_within (nI x) (nI lo) (nI hi) μ = some (nI 1, μ) := by
  apply wi_y
  · rw [q_lt (by omega) (by omega)]; omega
  · rw [q_lt (by omega) (by omega)]; omega
theorem bo_0 : bo (nI 0) = true := by decide
theorem bo_1 : bo (nI 1) = true := by decide
theorem ckb_0 {R : Type} (x : Option R) : ck (bo (nI 0)) x = x := by rw [bo_0, ck, if_pos rfl]
theorem ckb_1 {R : Type} (x : Option R) : ck (bo (nI 1)) x = x := by rw [bo_1, ck, if_pos rfl]
theorem sh5_n {x : Int32} {μ : Mem} (h : x < 0 ∨ nI 4 ≤ x) : f_X5_isSheet x μ = some (nI 0, μ) := by
  unfold f_X5_isSheet
  rw [wi_n (by rw [l_3, le_succ (by omega)]; exact h), b2_some, ckb_0]
theorem sh4_y {k : Nat} {μ : Mem} (h : k < 4) : f_X4_isSheet (nI k) μ = some (nI 1, μ) := by
  rcases (show k = 0 ∨ k = 1 ∨ k = 2 ∨ k = 3 by omega) with rfl | rfl | rfl | rfl <;> rfl
theorem sh5_y {k : Nat} {μ : Mem} (h : k < 4) : f_X5_isSheet (nI k) μ = some (nI 1, μ) := by
  unfold f_X5_isSheet
  rw [l_0, l_3, wi_j (by omega) (by omega) (by omega), b2_some, ckb_1]
theorem ln4_n {x : Int32} {μ : Mem} (h : x < 0 ∨ nI 3 ≤ x) : f_X4_isLane x μ = some (nI 0, μ) := by
  unfold f_X4_isLane
  by_cases h1 : x < 0
  · rw [if_pos h1]; rfl
  · rw [if_neg h1, l_3, if_pos (h.resolve_left h1)]; rfl
theorem ln5_n {x : Int32} {μ : Mem} (h : x < 0 ∨ nI 3 ≤ x) : f_X5_isSort x μ = some (nI 0, μ) := by
  unfold f_X5_isSort
  rw [wi_n (by rw [l_2, le_succ (by omega)]; exact h), b2_some, ckb_0]
theorem ln4_y {k : Nat} {μ : Mem} (h : k < 3) : f_X4_isLane (nI k) μ = some (nI 1, μ) := by
  rcases (show k = 0 ∨ k = 1 ∨ k = 2 by omega) with rfl | rfl | rfl <;> rfl
theorem ln5_y {k : Nat} {μ : Mem} (h : k < 3) : f_X5_isSort (nI k) μ = some (nI 1, μ) := by
  unfold f_X5_isSort
  rw [l_0, l_2, wi_j (by omega) (by omega) (by omega), b2_some, ckb_1]
theorem e10 : (nI 1 = 0) = False := by decide
theorem e00 : (nI 0 = 0) = True := by decide
theorem shc_n {k : Nat} (h : k < 4) : shc (nI k) = 35 + 2 * k := by unfold shc; rw [q_cl (by omega)]
theorem th_y {q n : Nat} {μ : Mem} (h : μ q 5 = nI n) (h0 : 0 < n) (h1 : n ≤ 7) : f_X1_areThere q μ = some (nI 1, μ) := by
  unfold f_X1_areThere
  rw [h, l_0, if_neg (show ¬ nI n ≤ nI 0 by rw [q_le (by omega) (by omega)]; omega)]; rfl
theorem th_n {q : Nat} {μ : Mem} (h : μ q 5 = nI 0) : f_X1_areThere q μ = some (nI 0, μ) := by
  unfold f_X1_areThere
  rw [h]; rfl
theorem t_back (x : Int32) (μ : Mem) (h : Inv μ) : ∃ (r : Int32) (μ1 μ2 : Mem), f_X4_back x μ = some (r, μ1) ∧ f_X5_back x μ1 = some (r, μ2) ∧ Inv μ2 := by
  have hI := h
  obtain ⟨⟨d, h1, h2, h3, h4, h5, ⟨rc, r1, r2, r3, r4⟩⟩, ht, hf⟩ := h
  rcases pk_ix x (n := rc + 1) (by omega) with hx | hx | ⟨j, hj, rfl⟩
  · refine ⟨-2, μ, μ, ?_, ?_, hI⟩
    · simp only [f_X4_back, hx, if_true]
    · simp only [f_X5_back, wi_n (Or.inl hx), b2_some, e00, if_true]
  · have hn : ¬ x < 0 := by rw [fa_lt]; rw [fa_le, nI_toInt (by omega)] at hx; have : (0 : Int32).toInt = 0 := by decide
                            omega
    have hn2 : nI rc < x := by rw [le_succ (by omega)]; exact hx
    refine ⟨-2, μ, μ, ?_, ?_, hI⟩
    · simp only [f_X4_back, hn, if_false, r2, Int32.not_le.mpr hn2]
    · rw [← r3] at hn2
      simp only [f_X5_back, wi_n (Or.inr hn2), b2_some, e00, if_true]
  · refine ⟨nI (rc - j), up μ 0 8 (nI (rc - j)), up (up μ 0 8 (nI (rc - j))) 43 29 (nI (rc - j)), ?_, ?_, ⟨d, Iv_rd ⟨h1, h2, h3, h4, h5, ⟨rc, r1, r2, r3, r4⟩⟩ ?_ ?_ ?_ ?_⟩, ?_, ?_⟩
    · simp (disch := omega) only [f_X4_back, l_0, q_lt, q_le, r2, lt_eq, q_sub, up_at]
      rw [if_neg (by omega), if_pos (by omega)]
    · have e : up μ 0 8 (nI (rc - j)) 43 29 = nI rc := by rw [up_ne (by omega), r3]
      simp (disch := omega) only [f_X5_back, e, l_0, wi_j, b2_some, lt_eq, q_sub, up_at]
      rw [if_neg (by decide)]
    · refine ⟨rc - j, by omega, by simp [up_if], by simp [up_if], fun k hk => ?_⟩
      have := r4 k (by omega)
      simpa [up_if] using this
    · intro c c0 c1 _ _ _ _; rw [up_ne c1, up_ne c0]
    · simp [up_if]
    · intro i a b; rw [up_ot (by omega), up_ne (by omega)]
    · simpa [up_if] using ht
    · simpa [up_if] using hf
theorem nn_of {n : Nat} {x : Int32} (h : nI n ≤ x) (hn : n < 2147483648) : ¬ x < 0 := by
  rw [fa_lt]; rw [fa_le, nI_toInt hn] at h; have : (0 : Int32).toInt = 0 := by decide
  omega
theorem ip2_n {x : Int32} {μ : Mem} (h : x < 0 ∨ nI 8 ≤ x) : f_X4_isPrice 2 x μ = some (nI 0, μ) := by
  unfold f_X4_isPrice
  by_cases h1 : x < 0
  · rw [if_pos h1]; rfl
  · rw [if_neg h1, if_pos rfl, l_7, if_pos (show nI 7 < x by rw [le_succ (by omega)]; exact h.resolve_left h1)]; rfl
theorem ip2_y {k : Nat} {μ : Mem} (h : k ≤ 7) : f_X4_isPrice 2 (nI k) μ = some (nI 1, μ) := by
  unfold f_X4_isPrice
  rw [if_neg (nI_pos (by omega)), if_pos rfl, l_7, if_neg (show ¬ nI 7 < nI k by rw [q_lt (by omega) (by omega)]; omega)]; rfl
theorem wi8_n {x : Int32} {μ : Mem} (h : x < 0 ∨ nI 8 ≤ x) : f_X5_within x 0 7 μ = some (nI 0, μ) := wi_n (by rw [l_7, le_succ (by omega)]; exact h)
theorem wi8_y {k : Nat} {μ : Mem} (h : k ≤ 7) : f_X5_within (nI k) 0 7 μ = some (nI 1, μ) := by rw [l_0, l_7, wi_j (by omega) (by omega) (by omega)]
theorem rd_j {v x : Nat} {c : Int32} {μ : Mem} (h : Inv μ) (hv : v ≤ 7) : ∃ (r : Int32) (μ1 μ2 : Mem), jn_X4_reading_41 (nI v) c μ = some (r, μ1) ∧ jn_X5_reading_40 (nI v) c μ1 = some (r, μ2) ∧ Inv μ2 ∧ μ1 43 5 = μ 43 5 := by
  have hI := h
  obtain ⟨⟨d, h1, h2, h3, h4, h5, ⟨rc, r1, r2, r3, r4⟩⟩, ht, hf⟩ := h
  by_cases e8 : rc = 8
  · subst e8
    refine ⟨-4, μ, μ, ?_, ?_, hI, rfl⟩
    · simp (disch := omega) only [jn_X4_reading_41, r2, l_8, q_lt]
      rfl
    · simp (disch := omega) only [jn_X5_reading_40, r3, l_8, if_true]
  · refine ⟨nI rc, up (up (up μ 33 rc (nI v)) 34 rc c) 0 8 (nI (rc + 1)), up (up (up (up (up (up μ 33 rc (nI v)) 34 rc c) 0 8 (nI (rc + 1))) 62 rc (nI v)) 63 rc c) 43 29 (nI (rc + 1)), ?_, ?_, ⟨⟨d, Iv_rd ⟨h1, h2, h3, h4, h5, ⟨rc, r1, r2, r3, r4⟩⟩ ?_ ?_ ?_ ?_⟩, ?_, ?_⟩, ?_⟩
    · simp (disch := omega) only [jn_X4_reading_41, r2, l_8, l_1, q_lt, lt_eq, q_ck, q_cl, up_ne, q_add, up_at, q_sub]
      rw [if_pos (by omega)]
      rfl
    · simp (disch := omega) only [jn_X5_reading_40, up_ne, r3, l_8, l_1, q_eq, lt_eq, q_ck, q_cl, q_add, up_at, q_sub]
      rw [if_neg (by omega)]
      rfl
    · refine ⟨rc + 1, by omega, by simp [up_if], by simp [up_if], fun k hk => ?_⟩
      by_cases ek : k = rc
      · subst ek
        exact ⟨by simp [up_if], by simp [up_if], v, hv, by simp [up_if]⟩
      · have := r4 k (by omega)
        simpa [up_if, ek] using this
    · intro c c0 c1 c2 c3 c4 c5; rw [up_ne c1, up_ne c5, up_ne c4, up_ne c0, up_ne c3, up_ne c2]
    · simp [up_if]
    · intro i a b; rw [up_ot (by omega), up_ne (by omega), up_ne (by omega), up_ne (by omega), up_ne (by omega), up_ne (by omega)]
    · simpa [up_if] using ht
    · simpa [up_if] using hf
    · simp [up_if]
theorem t_reading (x y : Int32) (μ : Mem) (h : Inv μ) : ∃ (r : Int32) (μ1 μ2 : Mem), f_X4_reading x y μ = some (r, μ1) ∧ f_X5_reading x y μ1 = some (r, μ2) ∧ Inv μ2 := by
  have hI := h
  obtain ⟨⟨d, h1, h2, h3, h4, h5, h6⟩, ht, hf⟩ := h
  have w1 := h1.1
  have a1 := h2.1
  have a2 := h3.1
  by_cases h0 : d 0 0 = 0
  · rw [h0] at a1 a2
    refine ⟨-3, μ, μ, ?_, ?_, hI⟩
    · simp only [f_X4_reading, th_n a1, b2_some, e00, if_true]
    · simp only [f_X5_reading, a2, e00, if_true]
  · have n0 : ¬ nI (d 0 0) = 0 := nz (by omega) (by omega)
    rcases pk_ix x (n := 8) (by omega) with hx | hx | ⟨j, hj, rfl⟩
    · refine ⟨-2, μ, μ, ?_, ?_, hI⟩
      · simp only [f_X4_reading, th_y a1 (by omega) w1, b2_some, e10, if_false, ip2_n (Or.inl hx), e00, if_true]
      · simp only [f_X5_reading, a2, n0, if_false, wi8_n (Or.inl hx), b2_some, e00, if_true]
    · refine ⟨-2, μ, μ, ?_, ?_, hI⟩
      · simp only [f_X4_reading, th_y a1 (by omega) w1, b2_some, e10, if_false, ip2_n (Or.inr hx), e00, if_true]
      · simp only [f_X5_reading, a2, n0, if_false, wi8_n (Or.inr hx), b2_some, e00, if_true]
    · obtain ⟨r, μ1, μ2, k1, k2, k3, k4⟩ := rd_j (x := 0) (c := y) hI (show j ≤ 7 by omega)
      rw [← k4] at a2
      by_cases hy : y = -9
      · refine ⟨r, μ1, μ2, ?_, ?_, k3⟩
        · simp only [f_X4_reading, th_y a1 (by omega) w1, b2_some, e10, if_false, ip2_y (show j ≤ 7 by omega), hy, if_true]
          rw [← hy]; exact k1
        · simp only [f_X5_reading, a2, n0, if_false, wi8_y (show j ≤ 7 by omega), b2_some, e10, hy, if_true]
          rw [← hy]; exact k2
      · by_cases hy1 : y < 0
        · refine ⟨-2, μ, μ, ?_, ?_, hI⟩
          · simp only [f_X4_reading, th_y a1 (by omega) w1, b2_some, e10, if_false, ip2_y (show j ≤ 7 by omega), hy, hy1, if_true]
          · rw [k4] at a2
            simp only [f_X5_reading, a2, n0, if_false, wi8_y (show j ≤ 7 by omega), b2_some, e10, hy, wi_n (Or.inl hy1), e00, if_true]
        · by_cases hy2 : y ≤ 500
          · refine ⟨r, μ1, μ2, ?_, ?_, k3⟩
            · simp only [f_X4_reading, th_y a1 (by omega) w1, b2_some, e10, if_false, ip2_y (show j ≤ 7 by omega), hy, hy1, hy2, if_true]
              exact k1
            · simp only [f_X5_reading, a2, n0, if_false, wi8_y (show j ≤ 7 by omega), b2_some, e10, hy, wi_y hy1 (Int32.not_lt.mpr hy2)]
              exact k2
          · refine ⟨-2, μ, μ, ?_, ?_, hI⟩
            · simp only [f_X4_reading, th_y a1 (by omega) w1, b2_some, e10, if_false, ip2_y (show j ≤ 7 by omega), hy, hy1, hy2]
            · rw [k4] at a2
              simp only [f_X5_reading, a2, n0, if_false, wi8_y (show j ≤ 7 by omega), b2_some, e10, hy, wi_n (Or.inr (Int32.not_le.mp hy2)), e00, if_true]
