def dU (d : BD) (i k v : Nat) : BD := fun a b => if a = i ∧ b = k then v else d a b
theorem dU_ne {d : BD} {i k v a b : Nat} (h : ¬ (a = i ∧ b = k)) : dU d i k v a b = d a b := if_neg h
theorem dU_at (d : BD) (i k v : Nat) : dU d i k v i k = v := if_pos ⟨rfl, rfl⟩
theorem BKc_i {q i k v : Nat} {μ : Mem} {d : BD} (hi : 1 ≤ i) (hi5 : i ≤ 5) (h : BKc q μ d) : BKc q (up μ (q + i) k (nI v)) (dU d i k v) := by
  obtain ⟨h1, h2, h3, h4, h5, h6, h7⟩ := h
  refine ⟨?_, ?_, ?_, ?_, ?_, fun j hj => ?_, fun j hj => ?_⟩
  · rw [up_ne (by omega), dU_ne (by omega)]; exact h1
  · rw [up_ne (by omega), dU_ne (by omega)]; exact h2
  · rw [up_ne (by omega), dU_ne (by omega)]; exact h3
  · rw [up_ne (by omega), dU_ne (by omega)]; exact h4
  · rw [up_ne (by omega), dU_ne (by omega)]; exact h5
  · rw [dU_ne (by omega)] at hj
    obtain ⟨a1, a2, a3⟩ := h6 j hj
    simp only [up_if, dU, Nat.add_left_cancel_iff]
    exact ⟨by split <;> first | rfl | exact a1, by split <;> first | rfl | exact a2, by split <;> first | rfl | exact a3⟩
  · rw [dU_ne (by omega)] at hj
    obtain ⟨a1, a2⟩ := h7 j hj
    simp only [up_if, dU, Nat.add_left_cancel_iff]
    exact ⟨by split <;> first | rfl | exact a1, by split <;> first | rfl | exact a2⟩
theorem up_dU {μ : Mem} {d : BD} {c i k v j : Nat} (h : μ c j = nI (d i j)) : up μ c k (nI v) c j = nI (dU d i k v i j) := by
  simp only [up_if, dU, true_and]
  split
  · rfl
  · exact h
theorem BKm_i {i k v : Nat} {μ : Mem} {d : BD} (hi : 1 ≤ i) (hi5 : i ≤ 5) (h : BKm μ d) : BKm (up μ (46 + i) k (nI v)) (dU d i k v) := by
  obtain ⟨h1, h2, h3, h4, h5, h6, h7⟩ := h
  refine ⟨?_, ?_, ?_, ?_, ?_, fun j hj => ?_, fun j hj => ?_⟩
  · rw [up_ne (by omega), dU_ne (by omega)]; exact h1
  · rw [up_ne (by omega), dU_ne (by omega)]; exact h2
  · rw [up_ne (by omega), dU_ne (by omega)]; exact h3
  · rw [up_ne (by omega), dU_ne (by omega)]; exact h4
  · rw [up_ne (by omega), dU_ne (by omega)]; exact h5
  · rw [dU_ne (by omega)] at hj
    obtain ⟨a1, a2, a3⟩ := h6 j hj
    rcases (show i = 1 ∨ i = 2 ∨ i = 3 ∨ i = 4 ∨ i = 5 by omega) with rfl | rfl | rfl | rfl | rfl
    · exact ⟨up_dU a1, by rw [up_ne (by omega), dU_ne (by omega)]; exact a2, by rw [up_ne (by omega), dU_ne (by omega)]; exact a3⟩
    · exact ⟨by rw [up_ne (by omega), dU_ne (by omega)]; exact a1, up_dU a2, by rw [up_ne (by omega), dU_ne (by omega)]; exact a3⟩
    · exact ⟨by rw [up_ne (by omega), dU_ne (by omega)]; exact a1, by rw [up_ne (by omega), dU_ne (by omega)]; exact a2, up_dU a3⟩
    · exact ⟨by rw [up_ne (by omega), dU_ne (by omega)]; exact a1, by rw [up_ne (by omega), dU_ne (by omega)]; exact a2, by rw [up_ne (by omega), dU_ne (by omega)]; exact a3⟩
    · exact ⟨by rw [up_ne (by omega), dU_ne (by omega)]; exact a1, by rw [up_ne (by omega), dU_ne (by omega)]; exact a2, by rw [up_ne (by omega), dU_ne (by omega)]; exact a3⟩
  · rw [dU_ne (by omega)] at hj
    obtain ⟨a1, a2⟩ := h7 j hj
    rcases (show i = 1 ∨ i = 2 ∨ i = 3 ∨ i = 4 ∨ i = 5 by omega) with rfl | rfl | rfl | rfl | rfl
    · exact ⟨by rw [up_ne (by omega), dU_ne (by omega)]; exact a1, by rw [up_ne (by omega), dU_ne (by omega)]; exact a2⟩
    · exact ⟨by rw [up_ne (by omega), dU_ne (by omega)]; exact a1, by rw [up_ne (by omega), dU_ne (by omega)]; exact a2⟩
    · exact ⟨by rw [up_ne (by omega), dU_ne (by omega)]; exact a1, by rw [up_ne (by omega), dU_ne (by omega)]; exact a2⟩
    · exact ⟨up_dU a1, by rw [up_ne (by omega), dU_ne (by omega)]; exact a2⟩
    · exact ⟨by rw [up_ne (by omega), dU_ne (by omega)]; exact a1, up_dU a2⟩
theorem up_dV {μ : Mem} {d : BD} {c p v j : Nat} (h : μ c (5 + j) = nI (d 0 j)) : up μ c (5 + p) (nI v) c (5 + j) = nI (dU d 0 p v 0 j) := by
  simp only [up_if, dU, true_and, Nat.add_left_cancel_iff]
  split
  · rfl
  · exact h
theorem BKc_p {q p v : Nat} {μ : Mem} {d : BD} (hp : 2 ≤ p) (h : BKc q μ d) : BKc q (up μ q (5 + p) (nI v)) (dU d 0 p v) := by
  obtain ⟨h1, h2, h3, h4, h5, h6, h7⟩ := h
  refine ⟨up_dV (j := 0) h1, up_dV (j := 1) h2, up_dV (j := 2) h3, up_dV (j := 3) h4, up_dV (j := 4) h5, fun j hj => ?_, fun j hj => ?_⟩
  · rw [dU_ne (by omega)] at hj
    rw [up_ne (by omega), up_ne (by omega), up_ne (by omega), dU_ne (by omega), dU_ne (by omega), dU_ne (by omega)]
    exact h6 j hj
  · rw [dU_ne (by omega)] at hj
    rw [up_ne (by omega), up_ne (by omega), dU_ne (by omega), dU_ne (by omega)]
    exact h7 j hj
theorem BKm_p {p v : Nat} {μ : Mem} {d : BD} (hp : 2 ≤ p) (h : BKm μ d) : BKm (up μ 43 (5 + p) (nI v)) (dU d 0 p v) := by
  obtain ⟨h1, h2, h3, h4, h5, h6, h7⟩ := h
  refine ⟨up_dV (j := 0) h1, up_dV (j := 1) h2, up_dV (j := 2) h3, up_dV (j := 3) h4, up_dV (j := 4) h5, fun j hj => ?_, fun j hj => ?_⟩
  · rw [dU_ne (by omega)] at hj
    rw [up_ne (by omega), up_ne (by omega), up_ne (by omega), dU_ne (by omega), dU_ne (by omega), dU_ne (by omega)]
    exact h6 j hj
  · rw [dU_ne (by omega)] at hj
    rw [up_ne (by omega), up_ne (by omega), dU_ne (by omega), dU_ne (by omega)]
    exact h7 j hj
theorem WFd_i {i k v : Nat} {d : BD} (w : WFd d) (hi : 1 ≤ i) (h1 : i = 1 → v < 3) (h2 : i = 2 ∨ i = 4 → v ≤ 9) (h3 : i = 3 ∨ i = 5 → v ≤ 4) : WFd (dU d i k v) := by
  obtain ⟨w1, w2, w3, w4, w5, w6, w7, w8⟩ := w
  unfold WFd
  have e : ∀ j, dU d i k v 0 j = d 0 j := fun j => dU_ne (by omega)
  simp only [e]
  refine ⟨w1, w2, w3, w4, w5, fun j hj => ?_, fun j hj => ?_, w8⟩
  · obtain ⟨a1, a2, a3⟩ := w6 j hj
    unfold dU
    refine ⟨?_, ?_, ?_⟩
    · split
      · exact h1 (by omega)
      · exact a1
    · split
      · exact h2 (by omega)
      · exact a2
    · split
      · exact h3 (by omega)
      · exact a3
  · obtain ⟨a1, a2⟩ := w7 j hj
    unfold dU
    refine ⟨?_, ?_⟩
    · split
      · exact h2 (by omega)
      · exact a1
    · split
      · exact h3 (by omega)
      · exact a2
theorem WFd_p {p v : Nat} {d : BD} (w : WFd d) (hp : 2 ≤ p) (h1 : p = 4 → v ≤ 7) (h2 : v ≤ 9) : WFd (dU d 0 p v) := by
  obtain ⟨w1, w2, w3, w4, w5, w6, w7, w8⟩ := w
  unfold WFd
  have e : ∀ i j, 1 ≤ i → dU d 0 p v i j = d i j := fun i j hi => dU_ne (by omega)
  have e0 : dU d 0 p v 0 0 = d 0 0 := dU_ne (by omega)
  have e1 : dU d 0 p v 0 1 = d 0 1 := dU_ne (by omega)
  simp (disch := omega) only [e0, e1, e]
  refine ⟨w1, w2, ?_, ?_, ?_, w6, w7, w8⟩
  · unfold dU; split <;> omega
  · unfold dU; split <;> omega
  · unfold dU
    split
    · exact h1 (by omega)
    · exact w5
theorem il_n {x : Int32} {μ : Mem} (h : x < nI 1 ∨ nI 10 ≤ x) : f_X4_isLetters x μ = some (nI 0, μ) ∧ f_X5_within x 1 9 μ = some (nI 0, μ) := by
  have h2 : x < 1 ∨ 9 < x := by rw [l_9, le_succ (by omega)]; exact h
  refine ⟨?_, wi_n h2⟩
  unfold f_X4_isLetters
  by_cases h1 : x < 1
  · rw [if_pos h1]; rfl
  · rw [if_neg h1, if_pos (h2.resolve_left h1)]; rfl
theorem il_y {v : Nat} {μ : Mem} (h1 : 1 ≤ v) (h2 : v ≤ 9) : f_X4_isLetters (nI v) μ = some (nI 1, μ) ∧ f_X5_within (nI v) 1 9 μ = some (nI 1, μ) := by
  refine ⟨?_, by rw [l_1, l_9, wi_j h1 h2 (by omega)]⟩
  unfold f_X4_isLetters
  rw [l_1, l_9, if_neg (show ¬ nI v < nI 1 by rw [q_lt (by omega) (by omega)]; omega), if_neg (show ¬ nI 9 < nI v by rw [q_lt (by omega) (by omega)]; omega)]
theorem ixl (x : Int32) : (x < nI 1 ∨ nI 10 ≤ x) ∨ ∃ v, 1 ≤ v ∧ v ≤ 9 ∧ x = nI v := by
  rcases pk_ix x (n := 10) (by omega) with a | a | ⟨j, a, rfl⟩
  · refine .inl (.inl ?_)
    rw [fa_lt] at *
    have : (0 : Int32).toInt = 0 := by decide
    have : (nI 1).toInt = 1 := by decide
    omega
  · exact .inl (.inr a)
  · by_cases h : j = 0
    · subst h; exact .inl (.inl (by decide))
    · exact .inr ⟨j, by omega, by omega, rfl⟩
theorem lt_j {s j v : Nat} {μ : Mem} {d : BD} (hI : Iv μ d) (ht : μ 0 10 = μ 43 1) (hf : μ 0 11 = μ 43 0) (hs : s < 2) (hj : j < d 0 s) (h1 : 1 ≤ v) (h2 : v ≤ 9) : ∃ (r : Int32) (μ1 μ2 : Mem), jn_X4_letters_43 (nI s) (nI j) (nI v) μ = some (r, μ1) ∧ jn_X5_letters_37 (nI s) (nI j) (nI v) μ1 = some (r, μ2) ∧ Inv μ2 ∧ μ1 43 = μ 43 := by
  have w := hI.1
  have hb := hI.2.1
  have hm := hI.2.2.1
  have w1 := w.1
  have w2 := w.2.1
  rcases (show s = 0 ∨ s = 1 by omega) with rfl | rfl
  · have hj7 : j < 7 := by omega
    have k1 := (hb.2.2.2.2.2.1 j hj).2.1
    have k2 := (hm.2.2.2.2.2.1 j hj).2.1
    simp only [Nat.reduceAdd] at k1
    refine ⟨nI (d 2 j), up (up μ 4 j (nI v)) 0 9 0, up (up (up μ 4 j (nI v)) 0 9 0) 48 j (nI v), ?_, ?_, ⟨⟨dU d 2 j v, Iv_bk hI (WFd_i w (by omega) (by omega) (by omega) (by omega)) (BKc_fr (BKc_i (i := 2) (k := j) (v := v) (by omega) (by omega) hb) ?_ ?_ ?_ ?_ ?_ ?_) (BKm_i (i := 2) (by omega) (by omega) (BKm_fr hm (fun i a b => ?_) (fun c a b => ?_))) ?_ (fun c hc => ?_) ?_ ?_⟩, ?_, ?_⟩, ?_⟩
    · simp (disch := omega) only [jn_X4_letters_43, (il_y h1 h2).1, b2_some, e10, e00, if_false, if_true, q_ck, q_cl, lt_eq, k1]
    · simp (disch := omega) only [jn_X5_letters_37, jn_X5_letters_69, (il_y h1 h2).2, b2_some, e10, e00, if_false, if_true, q_ck, q_cl, lt_eq, up_ne, k2]
    · rw [up_ne (by omega), up_ne (by omega)]
    · rw [up_ne (by omega), up_ne (by omega)]
    · rw [up_ne (by omega), up_ne (by omega)]
    · rw [up_ne (by omega), up_ne (by omega)]
    · rw [up_ne (by omega), up_ne (by omega)]
    · rw [up_ne (by omega), up_ne (by omega)]
    · rw [up_ne (by omega), up_ne (by omega)]
    · rw [up_ne (by omega), up_ne (by omega)]
    · rw [up_ne (by omega), up_at]; rfl
    · rw [up_ne (by omega), up_ne (by omega), up_ne (by omega)]
    · simp [up_if]
    · simp [up_if]
    · simpa [up_if] using ht
    · simpa [up_if] using hf
    · rw [up_ne (by omega), up_ne (by omega)]
  · have hj7 : j < 7 := by omega
    have k1 := (hb.2.2.2.2.2.2 j hj).1
    have k2 := (hm.2.2.2.2.2.2 j hj).1
    simp only [Nat.reduceAdd] at k1
    refine ⟨nI (d 4 j), up (up μ 6 j (nI v)) 0 9 0, up (up (up μ 6 j (nI v)) 0 9 0) 50 j (nI v), ?_, ?_, ⟨⟨dU d 4 j v, Iv_bk hI (WFd_i w (by omega) (by omega) (by omega) (by omega)) (BKc_fr (BKc_i (i := 4) (k := j) (v := v) (by omega) (by omega) hb) ?_ ?_ ?_ ?_ ?_ ?_) (BKm_i (i := 4) (by omega) (by omega) (BKm_fr hm (fun i a b => ?_) (fun c a b => ?_))) ?_ (fun c hc => ?_) ?_ ?_⟩, ?_, ?_⟩, ?_⟩
    · simp (disch := omega) only [jn_X4_letters_43, (il_y h1 h2).1, b2_some, e10, if_false, q_ck, q_cl, lt_eq, k1]
    · simp (disch := omega) only [jn_X5_letters_37, jn_X5_letters_69, (il_y h1 h2).2, b2_some, e10, if_false, q_ck, q_cl, lt_eq, up_ne, k2]
    · rw [up_ne (by omega), up_ne (by omega)]
    · rw [up_ne (by omega), up_ne (by omega)]
    · rw [up_ne (by omega), up_ne (by omega)]
    · rw [up_ne (by omega), up_ne (by omega)]
    · rw [up_ne (by omega), up_ne (by omega)]
    · rw [up_ne (by omega), up_ne (by omega)]
    · rw [up_ne (by omega), up_ne (by omega)]
    · rw [up_ne (by omega), up_ne (by omega)]
    · rw [up_ne (by omega), up_at]; rfl
    · rw [up_ne (by omega), up_ne (by omega), up_ne (by omega)]
    · simp [up_if]
    · simp [up_if]
    · simpa [up_if] using ht
    · simpa [up_if] using hf
    · rw [up_ne (by omega), up_ne (by omega)]
theorem t_letters (s x y : Int32) (μ : Mem) (h : Inv μ) : ∃ (r : Int32) (μ1 μ2 : Mem), f_X4_letters s x y μ = some (r, μ1) ∧ f_X5_letters s x y μ1 = some (r, μ2) ∧ Inv μ2 := by
  have hI' := h
  obtain ⟨⟨d, hI⟩, ht, hf⟩ := h
  have w := hI.1
  have hm := hI.2.2.1
  have hb := hI.2.1
  have w1 : d 0 0 < 2147483648 := by have := w.1; omega
  have w2 : d 0 1 < 2147483648 := by have := w.2.1; omega
  rcases ix7 (x := s) (n := 2) (by omega) with hs | ⟨s, hs, rfl⟩
  · refine ⟨-2, μ, μ, ?_, ?_, hI'⟩
    · have c0 : ¬ s = 0 := by
        intro e
        rw [e, l_0, q_le (by omega) (by omega)] at hs
        exact hs.elim (nI_pos (by omega)) (by omega)
      have c1 : ¬ s = 1 := by
        intro e
        rw [e, l_1, q_le (by omega) (by omega)] at hs
        exact hs.elim (nI_pos (by omega)) (by omega)
      simp only [f_X4_letters, c0, c1, if_false]
    · have := wi_n (x := s) (lo := 0) (hi := 1) (μ := μ) (by rw [l_1, le_succ (by omega)]; exact hs)
      simp only [f_X5_letters, this, b2_some, e00, if_true]
  · have z0 : ∀ ν : Mem, f_X5_within (nI s) 0 1 ν = some (nI 1, ν) := fun ν => by rw [l_0, l_1, wi_j (by omega) (by omega) (by omega)]
    have z1 : f_X4_letters (nI s) x y μ = jn_X4_letters_12 (nI s) x y μ := by
      unfold f_X4_letters
      rcases (show s = 0 ∨ s = 1 by omega) with rfl | rfl
      · rw [if_pos (e00 ▸ trivial)]
      · rw [if_neg (e10 ▸ not_false), if_pos l_1.symm]
    have z2 : ∀ ν : Mem, f_X5_letters (nI s) x y ν = if nI s = 0 then b2 (f_X5_isLeft x ν) fun x10 μ9 => if x10 = 0 then some (-1, μ9) else jn_X5_letters_37 (nI s) x y μ9 else b2 (f_X5_isRight x ν) fun x10 μ9 => if x10 = 0 then some (-1, μ9) else jn_X5_letters_37 (nI s) x y μ9 := by
      intro ν
      simp only [f_X5_letters, z0, b2_some, e10, if_false]
    rw [z1]
    simp only [z2, jn_X4_letters_12]
    rcases (show s = 0 ∨ s = 1 by omega) with rfl | rfl
    · simp only [e00, if_true]
      rcases ix7 (x := x) w.1 with hx | ⟨j, hj, rfl⟩
      · exact ⟨-1, μ, μ, by simp only [c_hasLeft_n hb.1 hx, b2_some, e00, if_true], by simp only [m_isLeft_n hm.1 hx, b2_some, e00, if_true], hI'⟩
      · rcases ixl y with hy | ⟨v, v1, v2, rfl⟩
        · refine ⟨-2, μ, μ, ?_, ?_, hI'⟩
          · simp only [c_hasLeft_y hb.1 w1 hj, b2_some, e10, if_false, jn_X4_letters_43, (il_n hy).1, e00, if_true]
          · simp only [m_isLeft_y hm.1 w1 hj, b2_some, e10, if_false, jn_X5_letters_37, (il_n hy).2, e00, if_true]
        · obtain ⟨r, μ1, μ2, k1, k2, k3, k4⟩ := lt_j hI ht hf hs hj v1 v2
          refine ⟨r, μ1, μ2, ?_, ?_, k3⟩
          · simp only [c_hasLeft_y hb.1 w1 hj, b2_some, e10, if_false]; exact k1
          · simp only [m_isLeft_y (show μ1 43 5 = nI (d 0 0) by rw [k4]; exact hm.1) w1 hj, b2_some, e10, if_false]; exact k2
    · simp only [e10, if_false]
      rcases ix7 (x := x) w.2.1 with hx | ⟨j, hj, rfl⟩
      · exact ⟨-1, μ, μ, by simp only [c_hasRight_n hb.2.1 hx, b2_some, e00, if_true], by simp only [m_isRight_n hm.2.1 hx, b2_some, e00, if_true], hI'⟩
      · rcases ixl y with hy | ⟨v, v1, v2, rfl⟩
        · refine ⟨-2, μ, μ, ?_, ?_, hI'⟩
          · simp only [c_hasRight_y hb.2.1 w2 hj, b2_some, e10, if_false, jn_X4_letters_43, (il_n hy).1, e00, if_true]
          · simp only [m_isRight_y hm.2.1 w2 hj, b2_some, e10, if_false, jn_X5_letters_37, (il_n hy).2, e00, if_true]
        · obtain ⟨r, μ1, μ2, k1, k2, k3, k4⟩ := lt_j hI ht hf hs hj v1 v2
          refine ⟨r, μ1, μ2, ?_, ?_, k3⟩
          · simp only [c_hasRight_y hb.2.1 w2 hj, b2_some, e10, if_false]; exact k1
          · simp only [m_isRight_y (show μ1 43 6 = nI (d 0 1) by rw [k4]; exact hm.2.1) w2 hj, b2_some, e10, if_false]; exact k2
