theorem Iv_23 {μ ν : Mem} {d : BD} (h : Iv μ d) (e : ∀ c, c < 8 ∨ (13 < c ∧ c < 23) ∨ (32 < c ∧ c < 55) ∨ 57 < c → ν c = μ c) : Iv ν d :=
  Iv_fr h (fun c hc => e c (by unfold Kp at hc; omega)) ⟨by rw [e 0 (by omega)], by rw [e 0 (by omega)]⟩ (fun i hi => by rw [e 43 (by omega)])
theorem Inv_23 {μ ν : Mem} (h : Inv μ) (e : ∀ c, c < 8 ∨ (13 < c ∧ c < 23) ∨ (32 < c ∧ c < 55) ∨ 57 < c → ν c = μ c) : Inv ν := by
  obtain ⟨⟨d, hI⟩, ht, hf⟩ := h
  refine ⟨⟨d, Iv_23 hI e⟩, ?_, ?_⟩
  · rw [e 0 (by omega), e 43 (by omega)]; exact ht
  · rw [e 0 (by omega), e 43 (by omega)]; exact hf
theorem t_by (x : Int32) (μ : Mem) (h : Inv μ) : ∃ (r : Int32) (μ1 μ2 : Mem), f_X4_by x μ = some (r, μ1) ∧ f_X5_by x μ1 = some (r, μ2) ∧ Inv μ2 := by
  have hI' := h
  obtain ⟨⟨d, hI⟩, ht, hf⟩ := h
  have w := hI.1
  have hm := hI.2.2.1
  have hb := hI.2.1
  have w1 := w.1
  rcases ix7' (x := x) (n := 8) (by omega) with hx | ⟨v, hv, rfl⟩
  · exact ⟨-2, μ, μ, by simp only [f_X4_by, ip2_n hx, b2_some, e00, if_true], by simp only [f_X5_by, wi8_n hx, b2_some, e00, if_true], hI'⟩
  · by_cases h0 : d 0 0 = 0
    · have a1 := hb.1
      have a2 := hm.1
      rw [h0] at a1 a2
      exact ⟨-3, μ, μ, by simp only [f_X4_by, ip2_y (show v ≤ 7 by omega), b2_some, e10, if_false, th_n a1, e00, if_true], by simp only [f_X5_by, wi8_y (show v ≤ 7 by omega), b2_some, e10, if_false, a2, e00, if_true], hI'⟩
    · have n0 : ¬ nI (d 0 0) = 0 := nz (by omega) (by omega)
      obtain ⟨μa, a0, a1, a2, a3, a4⟩ := c_take (al := 23) (bq := 2) (.inr rfl) (.inl rfl) w hb
      obtain ⟨μb, b0, b1', _⟩ := c_leastBy (al := 23) (wb := v) (.inr rfl) w (by omega) a2 a3 a4
      have fr : ∀ c, c < 23 ∨ 28 < c → μb c = μ c := fun c hc => by rw [b1' c (by omega) (by omega), a1 c (by omega) (by omega)]
      have hIb : Iv μb d := Iv_23 hI (fun c hc => fr c (by omega))
      obtain ⟨μc, c0, c1, _⟩ := m_findAll (w := v) w (by omega) hIb.2.2.1
      refine ⟨orN (VV d v 0 0).1, μb, μc, ?_, ?_, Inv_23 hI' (fun c hc => by rw [c1 c (by omega), fr c (by omega)])⟩
      · simp only [f_X4_by, ip2_y (show v ≤ 7 by omega), b2_some, e10, if_false, th_y hb.1 (by omega) w1, a0, b1_some, b0]
      · simp only [f_X5_by, wi8_y (show v ≤ 7 by omega), b2_some, e10, if_false, hIb.2.2.1.1, n0, c0]
theorem c_en36 {w0 : Nat} {d : BD} {x1 : Int32} (w : WFd d) (h7 : w0 ≤ 7) (he : w0 < 7 → orN (VV d w0 0 0).1 = x1) (hlt : ∀ v, v < w0 → ¬ orN (VV d v 0 0).1 = x1) : ∀ (m v f : Nat) (μ : Mem), v + m = w0 → m < f → μ 23 8 = nI (d 0 0) → μ 23 9 = nI (d 0 1) → PC 23 μ d → ∃ μ', lp_X4_enough_36 x1 f (nI v) μ = some (nI w0, μ') ∧ ∀ c, c < 25 ∨ 28 < c → μ' c = μ c := by
  intro m
  induction m with
  | zero =>
    intro v f μ hv hf h8 h9 hpc
    obtain ⟨f, rfl⟩ : ∃ m, f = m + 1 := ⟨f - 1, by omega⟩
    have : v = w0 := by omega
    subst this
    rw [lp_X4_enough_36]
    by_cases c7 : v = 7
    · subst c7
      exact ⟨μ, by rw [if_pos (by decide)], fun _ _ => rfl⟩
    · obtain ⟨μb, b0, b1', _⟩ := c_leastBy (al := 23) (wb := v) (.inr rfl) w (by omega) h8 h9 hpc
      refine ⟨μb, ?_, fun c hc => b1' c (by omega) (by omega)⟩
      rw [l_7, if_neg (show ¬ nI 7 ≤ nI v by rw [q_le (by omega) (by omega)]; omega), b0, b2_some, if_pos (he (by omega))]
  | succ m ih =>
    intro v f μ hv hf h8 h9 hpc
    obtain ⟨f, rfl⟩ : ∃ m, f = m + 1 := ⟨f - 1, by omega⟩
    obtain ⟨μb, b0, b1', _⟩ := c_leastBy (al := 23) (wb := v) (.inr rfl) w (by omega) h8 h9 hpc
    obtain ⟨μc, c0, c1⟩ := ih (v + 1) f μb (by omega) (by omega) (by rw [b1' 23 (by omega) (by omega)]; exact h8) (by rw [b1' 23 (by omega) (by omega)]; exact h9) (PC_fr hpc (b1' _ (by omega) (by omega)))
    refine ⟨μc, ?_, fun c hc => by rw [c1 c hc, b1' c (by omega) (by omega)]⟩
    rw [lp_X4_enough_36, l_7, if_neg (show ¬ nI 7 ≤ nI v by rw [q_le (by omega) (by omega)]; omega), b0, b2_some, if_neg (hlt v (by omega)), lt_eq, l_1, q_add, c0]
theorem m_en19 {w0 : Nat} {d : BD} {x1 : Int32} (w : WFd d) (h7 : w0 ≤ 7) (he : orN (VV d w0 0 0).1 = x1) (hlt : ∀ v, v < w0 → ¬ orN (VV d v 0 0).1 = x1) : ∀ (m v f : Nat) (μ : Mem), v + m = w0 → m < f → BKm μ d → ∃ μ', lp_X5_enough_19 x1 f (nI v) μ = some (nI w0, μ') ∧ ∀ c, c < 55 ∨ 57 < c → μ' c = μ c := by
  intro m
  induction m with
  | zero =>
    intro v f μ hv hf hm
    obtain ⟨f, rfl⟩ : ∃ m, f = m + 1 := ⟨f - 1, by omega⟩
    have : v = w0 := by omega
    subst this
    obtain ⟨μb, b0, b1', _⟩ := m_findAll (w := v) w h7 hm
    refine ⟨μb, ?_, b1'⟩
    rw [lp_X5_enough_19, b0, b2_some, if_pos he]
  | succ m ih =>
    intro v f μ hv hf hm
    obtain ⟨f, rfl⟩ : ∃ m, f = m + 1 := ⟨f - 1, by omega⟩
    obtain ⟨μb, b0, b1', _⟩ := m_findAll (w := v) w (by omega) hm
    obtain ⟨μc, c0, c1⟩ := ih (v + 1) f μb (by omega) (by omega) (BKm_fr hm (fun i _ _ => by rw [b1' 43 (by omega)]) (fun c _ _ => b1' c (by omega)))
    refine ⟨μc, ?_, fun c hc => by rw [c1 c hc, b1' c hc]⟩
    rw [lp_X5_enough_19, b0, b2_some, if_neg (hlt v (by omega)), lt_eq, l_1, q_add, c0]
theorem first_w (T : Nat → Int32) : ∀ n, ∃ w0, w0 ≤ n ∧ T w0 = T n ∧ ∀ v, v < w0 → ¬ T v = T n := by
  have H : ∀ (x : Int32) (n : Nat), T n = x → ∃ w0, w0 ≤ n ∧ T w0 = x ∧ ∀ v, v < w0 → ¬ T v = x := by
    intro x n
    induction n using Nat.strongRecOn with
    | ind n ih =>
      intro e
      by_cases c : ∃ v, v < n ∧ T v = x
      · obtain ⟨v, hv, hx⟩ := c
        obtain ⟨w0, h1, h2, h3⟩ := ih v hv hx
        exact ⟨w0, by omega, h2, h3⟩
      · exact ⟨n, Nat.le_refl _, e, fun v hv hx => c ⟨v, hv, hx⟩⟩
  exact fun n => H (T n) n rfl
theorem t_enough (μ : Mem) (h : Inv μ) : ∃ (r : Int32) (μ1 μ2 : Mem), f_X4_enough μ = some (r, μ1) ∧ f_X5_enough μ1 = some (r, μ2) ∧ Inv μ2 := by
  have hI' := h
  obtain ⟨⟨d, hI⟩, ht, hf⟩ := h
  have w := hI.1
  have hm := hI.2.2.1
  have hb := hI.2.1
  have w1 := w.1
  by_cases h0 : d 0 0 = 0
  · have a1 := hb.1
    have a2 := hm.1
    rw [h0] at a1 a2
    exact ⟨-3, μ, μ, by simp only [f_X4_enough, th_n a1, b2_some, e00, if_true], by simp only [f_X5_enough, a2, e00, if_true], hI'⟩
  · have n0 : ¬ nI (d 0 0) = 0 := nz (by omega) (by omega)
    obtain ⟨w0, f1, f2, f3⟩ := first_w (fun v => orN (VV d v 0 0).1) 7
    obtain ⟨μa, a0, a1, a2, a3, a4⟩ := c_take (al := 23) (bq := 2) (.inr rfl) (.inl rfl) w hb
    obtain ⟨μb, b0, b1', _⟩ := c_leastBy (al := 23) (wb := 7) (.inr rfl) w (by omega) a2 a3 a4
    obtain ⟨μc, c0, c1⟩ := c_en36 w f1 (fun _ => f2) f3 w0 0 FU μb (by omega) (by unfold FU; omega) (by rw [b1' 23 (by omega) (by omega)]; exact a2) (by rw [b1' 23 (by omega) (by omega)]; exact a3) (PC_fr a4 (b1' _ (by omega) (by omega)))
    have fr : ∀ c, c < 23 ∨ 28 < c → μc c = μ c := fun c hc => by rw [c1 c (by omega), b1' c (by omega) (by omega), a1 c (by omega) (by omega)]
    have hIc : Iv μc d := Iv_23 hI (fun c hc => fr c (by omega))
    obtain ⟨μd, d0, d1, _⟩ := m_findAll (w := 7) w (by omega) hIc.2.2.1
    have hId : Iv μd d := Iv_23 hIc (fun c hc => d1 c (by omega))
    obtain ⟨μe, e0, e1⟩ := m_en19 w f1 f2 f3 w0 0 FU μd (by omega) (by unfold FU; omega) hId.2.2.1
    refine ⟨nI w0, μc, μe, ?_, ?_, Inv_23 hI' (fun c hc => by rw [e1 c (by omega), d1 c (by omega), fr c (by omega)])⟩
    · rw [← l_7] at b0
      rw [show nI 0 = (0 : Int32) from rfl] at c0
      simp only [f_X4_enough, th_y hb.1 (by omega) w1, b2_some, e10, if_false, a0, b1_some, b0, c0]
    · rw [← l_7] at d0
      rw [show nI 0 = (0 : Int32) from rfl] at e0
      simp only [f_X5_enough, hIc.2.2.1.1, n0, if_false, d0, b2_some, e0]
