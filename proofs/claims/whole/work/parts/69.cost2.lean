theorem c43_0 {q : Nat} {y k : Int32} {μ : Mem} : jn_X1_hasPair_43 q y k (nI 0) μ = some (nI 0, μ) := by
  have h : ∃ v, f_X1_hasRight q y μ = some (v, μ) := by
    unfold f_X1_hasRight
    split
    · exact ⟨_, rfl⟩
    · split
      · exact ⟨_, rfl⟩
      · exact ⟨_, rfl⟩
  obtain ⟨v, h⟩ := h
  simp only [jn_X1_hasPair_43, jn_X1_hasPair_69, jn_X1_hasPair_73, jn_X1_hasPair_74, e00, if_true, h, b2_some, ite_self]
  rfl
theorem is_n {x : Int32} {μ : Mem} (h : x < 0 ∨ nI 5 ≤ x) : f_X4_isSort x μ = some (nI 0, μ) ∧ f_X5_within x 0 4 μ = some (nI 0, μ) := by
  refine ⟨?_, wi_n (by rw [l_4, le_succ (by omega)]; exact h)⟩
  unfold f_X4_isSort
  by_cases h1 : x < 0
  · rw [if_pos h1]; rfl
  · rw [if_neg h1, l_5, if_pos (h.resolve_left h1)]; rfl
theorem is_y {s : Nat} {μ : Mem} (h : s < 5) : f_X4_isSort (nI s) μ = some (nI 1, μ) ∧ f_X5_within (nI s) 0 4 μ = some (nI 1, μ) := by
  refine ⟨?_, by rw [l_0, l_4, wi_j (by omega) (by omega) (by omega)]⟩
  rcases (show s = 0 ∨ s = 1 ∨ s = 2 ∨ s = 3 ∨ s = 4 by omega) with rfl | rfl | rfl | rfl | rfl <;> rfl
theorem c_R {s : Nat} {y : Int32} {μ : Mem} {d : BD} (w : WFd d) (hb : BKc 2 μ d) (hm : BKm μ d) (hs : s < 5) : (jn_X1_hasPair_43 2 y (nI (dr s)) (nI 1) μ = some (nI 0, μ) ∧ ∀ x, jn_X5_cost_43 (nI s) x y (nI 1) μ = some (-1, μ)) ∨ (jn_X1_hasPair_43 2 y (nI (dr s)) (nI 1) μ = some (nI 1, μ) ∧ (s = 1 ∨ ∃ b, b + dr s ≤ d 0 1 ∧ y = nI b) ∧ ∀ x, jn_X5_cost_43 (nI s) x y (nI 1) μ = jn_X5_cost_76 (nI s) x y μ) := by
  have w2 := w.2.1
  have q2 := dr_le s
  by_cases s1 : s = 1
  · subst s1
    refine .inr ⟨rfl, .inl rfl, fun x => ?_⟩
    rw [jn_X5_cost_43, if_neg (e10 ▸ not_false), if_pos l_1.symm]
  · have n1 : ¬ nI s = 1 := by rw [l_1, q_eq (by omega) (by omega)]; exact s1
    have dp : 0 < dr s := by
      rcases (show s = 0 ∨ s = 2 ∨ s = 3 ∨ s = 4 by omega) with rfl | rfl | rfl | rfl <;> decide
    have nd : ¬ nI (dr s) = 0 := nz dp (by omega)
    rcases ix7 (x := y) w.2.1 with hy | ⟨b, hj, rfl⟩
    · refine .inl ⟨?_, fun x => ?_⟩
      · simp only [jn_X1_hasPair_43, nd, if_false, c_hasRight_n hb.2.1 hy, b2_some, e00, if_true]; rfl
      · simp only [jn_X5_cost_43, e10, n1, if_false, m_isRight_n hm.2.1 hy, b2_some, e00, if_true]; rfl
    · have cc := c_hp43 (q := 2) (b := b) (n := d 0 1) (x := 1) (k := dr s) hb.2.1 w2 (by omega) (by omega) q2
      rw [cc]
      have mm : ∀ x, jn_X5_cost_43 (nI s) x (nI b) (nI 1) μ = if d 0 1 < b + dr s then jn_X5_cost_80 (nI s) x (nI b) μ else jn_X5_cost_76 (nI s) x (nI b) μ := by
        intro x
        simp (disch := omega) only [jn_X5_cost_43, e10, n1, if_false, m_isRight_y hm.2.1 (by omega) hj, b2_some, m_rightsOf hs, hm.2.1, q_add, q_lt]
      by_cases c : b + dr s ≤ d 0 1
      · exact .inr ⟨by rw [if_pos c], .inr ⟨b, c, rfl⟩, fun x => by rw [mm, if_neg (by omega)]⟩
      · refine .inl ⟨by rw [if_neg c], fun x => ?_⟩
        rw [mm, if_pos (by omega)]; rfl
theorem c_fin {s : Nat} {x y : Int32} {μ : Mem} {d : BD} (w : WFd d) (hb : BKc 2 μ d) (hm : BKm μ d) (hs : s < 5) (hx : s = 2 ∨ ∃ a, a + dl s ≤ d 0 0 ∧ x = nI a) (hy : s = 1 ∨ ∃ b, b + dr s ≤ d 0 1 ∧ y = nI b) : ∃ v, f_X1_pairCost 2 (nI s) x y μ = some (v, μ) ∧ f_X5_costOf (nI s) x y μ = some (v, μ) := by
  rcases hx with rfl | ⟨a, ha, rfl⟩
  · rcases hy with z | ⟨b, hb', rfl⟩
    · omega
    · have hv : avl d 2 0 b := ⟨Nat.zero_le _, hb'⟩
      have e1 := c_pairCost hb w hs hv
      have e2 := m_costOf hm w hs hv
      refine ⟨nI (cst d 2 0 b), ?_, ?_⟩
      · rw [← e1]
        simp only [f_X1_pairCost]
        rw [if_neg (by decide), if_pos (by decide), if_neg (by decide), if_pos (by decide)]
      · rw [← e2]
        simp only [f_X5_costOf]
        rw [if_neg (by decide), if_pos (by decide), if_neg (by decide), if_pos (by decide)]
  · rcases hy with rfl | ⟨b, hb', rfl⟩
    · have hv : avl d 1 a 0 := ⟨ha, Nat.zero_le _⟩
      have e1 := c_pairCost hb w hs hv
      have e2 := m_costOf hm w hs hv
      refine ⟨nI (cst d 1 a 0), ?_, ?_⟩
      · rw [← e1]
        simp only [f_X1_pairCost]
        rw [if_pos (by decide), if_pos (by decide)]
      · rw [← e2]
        simp only [f_X5_costOf]
        rw [if_pos (by decide), if_pos (by decide)]
    · exact ⟨_, c_pairCost hb w hs ⟨ha, hb'⟩, m_costOf hm w hs ⟨ha, hb'⟩⟩
theorem t_cost (z x y : Int32) (μ : Mem) (h : Inv μ) : ∃ (r : Int32) (μ1 μ2 : Mem), f_X4_cost z x y μ = some (r, μ1) ∧ f_X5_cost z x y μ1 = some (r, μ2) ∧ Inv μ2 := by
  have hI' := h
  obtain ⟨⟨d, hI⟩, ht, hf⟩ := h
  have w := hI.1
  have hm := hI.2.2.1
  have hb := hI.2.1
  suffices H : ∃ r, f_X4_cost z x y μ = some (r, μ) ∧ f_X5_cost z x y μ = some (r, μ) by
    obtain ⟨r, u, v⟩ := H
    exact ⟨r, μ, μ, u, v, hI'⟩
  rcases ix7 (x := z) (n := 5) (by omega) with hz | ⟨s, hs, rfl⟩
  · exact ⟨-2, by simp only [f_X4_cost, (is_n hz).1, b2_some, e00, if_true], by simp only [f_X5_cost, (is_n hz).2, b2_some, e00, if_true]⟩
  · simp only [f_X4_cost, f_X5_cost, (is_y hs).1, (is_y hs).2, b2_some, e10, if_false]
    simp (disch := omega) only [f_X1_hasPair, q_ck, q_cl, lt_eq, stv0 hs, stv1 hs]
    have w1 := w.1
    have q1 := dl_le s
    have mid : ∀ (hx : s = 2 ∨ ∃ a, a + dl s ≤ d 0 0 ∧ x = nI a), ∃ r, (b2 (jn_X1_hasPair_43 2 y (nI (dr s)) (nI 1) μ) fun x4 μ3 => if x4 = 0 then some (-1, μ3) else b2 (f_X1_pairCost 2 (nI s) x y μ3) fun x6 μ5 => some (x6, μ5)) = some (r, μ) ∧ jn_X5_cost_43 (nI s) x y (nI 1) μ = some (r, μ) := by
      intro hx
      rcases c_R (s := s) (y := y) w hb hm hs with ⟨a1, a2⟩ | ⟨a1, a2, a3⟩
      · exact ⟨-1, by rw [a1, b2_some, if_pos (e00 ▸ trivial)], a2 x⟩
      · obtain ⟨v, b1', b2'⟩ := c_fin w hb hm hs hx a2
        refine ⟨v, ?_, ?_⟩
        · rw [a1, b2_some, if_neg (e10 ▸ not_false), b1']; rfl
        · rw [a3, jn_X5_cost_76, jn_X5_cost_81, if_neg (by decide), b2']; rfl
    by_cases s2 : s = 2
    · subst s2
      rw [show nI (dl 2) = nI 0 from rfl, if_pos (e00 ▸ trivial), if_pos l_2.symm]
      exact mid (.inl rfl)
    · have n2 : ¬ nI s = 2 := by rw [l_2, q_eq (by omega) (by omega)]; exact s2
      have dp : 0 < dl s := by
        rcases (show s = 0 ∨ s = 1 ∨ s = 3 ∨ s = 4 by omega) with rfl | rfl | rfl | rfl <;> decide
      have nd : ¬ nI (dl s) = 0 := nz dp (by omega)
      rw [if_neg nd, if_neg n2]
      rcases ix7 (x := x) w.1 with hx | ⟨a, ha, rfl⟩
      · refine ⟨-1, ?_, ?_⟩
        · rw [c_hasLeft_n hb.1 hx, b2_some, if_pos (e00 ▸ trivial), jn_X1_hasPair_42, l_0, c43_0, b2_some, if_pos rfl]
        · rw [m_isLeft_n hm.1 hx, b2_some, if_pos (e00 ▸ trivial)]; rfl
      · simp only [c_hasLeft_y hb.1 (show d 0 0 < 2147483648 by omega) ha, b2_some, m_isLeft_y hm.1 (show d 0 0 < 2147483648 by omega) ha, e10, if_false, m_leftsOf hs, hb.1, hm.1]
        by_cases c : a + dl s ≤ d 0 0
        · simp (disch := omega) only [q_sub, q_add, q_lt]
          rw [if_neg (by omega), if_neg (by omega)]
          exact mid (.inr ⟨a, c, rfl⟩)
        · simp (disch := omega) only [q_sub, q_add, q_lt]
          rw [if_pos (by omega), if_pos (by omega)]
          refine ⟨-1, ?_, rfl⟩
          rw [jn_X1_hasPair_42, l_0, c43_0, b2_some, if_pos rfl]
