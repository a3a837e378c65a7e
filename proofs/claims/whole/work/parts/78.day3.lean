theorem day_J {k i n a : Nat} {V : Nat → Int32} {d : BD} {μ ν : Mem} (hk : k < 4) (hi : i + 2 * n ≤ 60) (ha : a ≤ 4 ∨ (10 ≤ a ∧ a < 17)) (hok : ∀ s, s < n → okA (V (i + 2 * s)) (V (i + 2 * s + 1))) (w : WFd d) (h0 : d 0 0 ≠ 0) (hb : BKc 2 μ d) (hm : BKm ν d) (e1 : ∀ j, j < 60 → μ (36 + 2 * k) j = V j) (e2 : ∀ j, j < 60 → ν 46 (60 * k + j) = V j) :
    ∃ x16 x18 x21 μ' μc ν' ν'', f_X4_supposeDay (35 + 2 * k) (nI i) (nI n) μ = some (x16, μ') ∧ f_X4_answerOfDay x16 (nI a) μ' = some (x18, μc) ∧ (∀ c, (c < 8 ∨ 13 < c) → (c < 23 ∨ 31 < c) → μc c = μ c) ∧ f_X5_goDay (nI (60 * k + i)) (nI n) ν = some (x16, ν') ∧ f_X5_tellDay (nI a) ν' = some (x21, ν'') ∧ (∀ c, c ≠ 43 → c ≠ 48 → c ≠ 50 → c < 55 ∨ 60 < c → ν'' c = ν c) ∧ (∀ j, j < 7 ∨ 9 < j → j ≠ 24 → ν'' 43 j = ν 43 j) ∧ (if a = 1 then x18 = x16 else if x16 = -9 then x18 = x21 else x18 = -100 - x16) := by
  have w1 := w.1
  obtain ⟨μa, a0, a1, a2⟩ := c_becomeLike (q0 := 8) (q1 := 2) w (by omega) hb
  obtain ⟨d', μ', ν', g1, g2, g3, g4, g5, g6, g7, g8, g9⟩ := day_go (V := V) hk hi hok n 0 FU FU d μa ν (by omega) (by unfold FU; omega) (by unfold FU; omega) w a1 hm (fun j hj => by rw [a2 _ (by omega)]; exact e1 j hj) e2
  obtain ⟨x21, ν'', t1, t2, t3, t4, t5⟩ := m_tellDay g3 g1 ha
  have fm : ∀ c, c ≠ 43 → c ≠ 48 → c ≠ 50 → c < 55 ∨ 60 < c → ν'' c = ν c := fun c c1 c2 c3 c4 => by rw [t2 c c1 c4, g7 c c1 c2 c3]
  have fm3 : ∀ j, j < 7 ∨ 9 < j → j ≠ 24 → ν'' 43 j = ν 43 j := fun j h1 h2 => by rw [t3 j h2, g8 j h1]
  have fc : ∀ c, c < 8 ∨ 13 < c → μ' c = μ c := fun c hc => by rw [g6 c hc, a2 c (by omega)]
  rcases g9 with ⟨r1, r2⟩ | ⟨s, sn, r1, r2⟩
  · rw [show nI 0 = (0 : Int32) from rfl] at r1 r2
    have S1 : f_X4_supposeDay (35 + 2 * k) (nI i) (nI n) μ = some (-9, μ') := by simp only [f_X4_supposeDay, a0, b1_some, r1, s1_inl]
    have S2 : f_X5_goDay (nI (60 * k + i)) (nI n) ν = some (-9, ν') := by simp only [f_X5_goDay, r2, s1_inl]
    by_cases c1 : a = 1
    · subst c1
      exact ⟨-9, -9, x21, μ', μ', ν', ν'', S1, by rw [f_X4_answerOfDay, if_pos (by decide)], fun c h1 _ => fc c h1, S2, t1, fm, fm3, by rw [if_pos rfl]⟩
    · have n1 : ¬ nI a = 1 := by rw [l_1, q_eq (by omega) (by omega)]; exact c1
      obtain ⟨μx, x0, x1, x2⟩ := c_align (al := 23) (bq := 8) (.inr rfl) (.inr rfl) g1 g2
      have fx : ∀ c, (c < 8 ∨ 13 < c) → (c < 23 ∨ 31 < c) → μx c = μ c := fun c h1 h2 => by rw [x1 c (by omega), fc c h1]
      by_cases c4 : a ≤ 4
      · have n10 : nI a < 10 := by rw [l_10, q_lt (by omega) (by omega)]; omega
        obtain ⟨v, v1, v2⟩ := c_answer (n := if a = 0 then 0 else a - 1) x2 g1 (by rw [g4]; exact h0) (by split <;> omega)
        have := bestV_one (t4 c1 c4) v2
        subst this
        refine ⟨-9, x21, x21, μ', μx, ν', ν'', S1, ?_, fx, S2, t1, fm, fm3, by rw [if_neg c1, if_pos rfl]⟩
        rw [f_X4_answerOfDay, if_neg n1, if_pos rfl, if_pos n10, jn_X4_answerOfDay_41, x0, b1_some, if_pos n10]
        by_cases z : a = 0
        · subst z
          rw [if_pos (by decide)]
          rw [if_pos rfl] at v1
          have v1' : f_X0_answer 23 0 μx = some (x21, μx) := v1
          rw [v1']; rfl
        · rw [if_neg z] at v1
          rw [if_neg (by rw [l_0, q_eq (by omega) (by omega)]; exact z), l_1, q_sub (by omega), v1]; rfl
      · have n10 : ¬ nI a < 10 := by rw [l_10, q_lt (by omega) (by omega)]; omega
        have sb : nI a - 10 = nI (a - 10) := by rw [l_10, q_sub (by omega)]
        obtain ⟨t6, t7⟩ := t5 (by omega)
        by_cases cl : a - 10 < d' 0 0
        · obtain ⟨μb, mb, pb⟩ := t6 cl
          obtain ⟨v, v1, v2⟩ := rwE (x := a - 10) g1 (by omega) x2 mb
          rw [pb] at v2
          have : x21 = v := by injection v2 with v2; injection v2
          subst this
          refine ⟨-9, x21, x21, μ', μx, ν', ν'', S1, ?_, fx, S2, t1, fm, fm3, by rw [if_neg c1, if_pos rfl]⟩
          rw [f_X4_answerOfDay, if_neg n1, if_pos rfl, if_neg n10, sb, c_hasLeft_y g2.1 (by omega) cl, b2_some, if_neg (e10 ▸ not_false), jn_X4_answerOfDay_41, x0, b1_some, if_neg n10, sb, v1]; rfl
        · have t8 := t7 cl
          subst t8
          refine ⟨-9, -9, -9, μ', μ', ν', ν'', S1, ?_, fun c h1 _ => fc c h1, S2, t1, fm, fm3, by rw [if_neg c1, if_pos rfl]⟩
          rw [f_X4_answerOfDay, if_neg n1, if_pos rfl, if_neg n10, sb, c_hasLeft_n g2.1 (.inr (by rw [q_le (by omega) (by omega)]; omega)), b2_some, if_pos (e00 ▸ trivial)]
  · rw [show nI 0 = (0 : Int32) from rfl] at r1 r2
    have S1 : f_X4_supposeDay (35 + 2 * k) (nI i) (nI n) μ = some (nI s, μ') := by simp only [f_X4_supposeDay, a0, b1_some, r1, s1_inr]
    have S2 : f_X5_goDay (nI (60 * k + i)) (nI n) ν = some (nI s, ν') := by simp only [f_X5_goDay, r2, s1_inr]
    have n9 : ¬ nI s = -9 := by rw [q_n9 (by omega)]; exact not_false
    by_cases c1 : a = 1
    · subst c1
      exact ⟨nI s, nI s, x21, μ', μ', ν', ν'', S1, by rw [f_X4_answerOfDay, if_pos (by decide)], fun c h1 _ => fc c h1, S2, t1, fm, fm3, by rw [if_pos rfl]⟩
    · have n1 : ¬ nI a = 1 := by rw [l_1, q_eq (by omega) (by omega)]; exact c1
      exact ⟨nI s, -100 - nI s, x21, μ', μ', ν', ν'', S1, by rw [f_X4_answerOfDay, if_neg n1, if_neg n9], fun c h1 _ => fc c h1, S2, t1, fm, fm3, by rw [if_neg c1, if_neg n9]⟩
theorem asked (x : Int32) : ((∀ μ, f_X4_isAskedOfDay x μ = some (nI 0, μ)) ∧ (∀ μ, f_X5_within x 0 4 μ = some (nI 0, μ)) ∧ ∀ μ, f_X5_within x 10 16 μ = some (nI 0, μ)) ∨ ∃ a, (a ≤ 4 ∨ (10 ≤ a ∧ a < 17)) ∧ x = nI a ∧ (∀ μ, f_X4_isAskedOfDay x μ = some (nI 1, μ)) ∧ ((∀ μ, f_X5_within x 0 4 μ = some (nI 1, μ)) ∨ ((∀ μ, f_X5_within x 0 4 μ = some (nI 0, μ)) ∧ ∀ μ, f_X5_within x 10 16 μ = some (nI 1, μ))) := by
  have t17 : (17 : Int32).toInt = 17 := by decide
  have t16 : (16 : Int32).toInt = 16 := by decide
  have t10 : (10 : Int32).toInt = 10 := by decide
  have t4 : (4 : Int32).toInt = 4 := by decide
  rcases pk_ix x (n := 17) (by omega) with h | h | ⟨a, ha, rfl⟩
  · rw [fa_lt, i0] at h
    refine .inl ⟨fun μ => ?_, fun μ => wi_n (by rw [fa_lt, fa_lt]; rw [i0]; omega), fun μ => wi_n (by rw [fa_lt, fa_lt]; omega)⟩
    rw [f_X4_isAskedOfDay, if_pos (by rw [fa_lt, i0]; omega), jn_X4_isAskedOfDay_9, if_pos (by rw [fa_lt]; omega)]; rfl
  · rw [fa_le, nI_toInt (by omega)] at h
    refine .inl ⟨fun μ => ?_, fun μ => wi_n (by rw [fa_lt, fa_lt]; rw [i0]; omega), fun μ => wi_n (by rw [fa_lt, fa_lt]; omega)⟩
    rw [f_X4_isAskedOfDay, if_neg (by rw [fa_lt, i0]; omega), if_neg (by rw [fa_le]; omega), jn_X4_isAskedOfDay_9, if_neg (by rw [fa_lt]; omega), if_pos (by rw [fa_le]; omega)]; rfl
  · have g := nI_toInt (show a < 2147483648 by omega)
    by_cases c4 : a ≤ 4
    · refine .inr ⟨a, .inl c4, rfl, fun μ => ?_, .inl fun μ => wi_y (by rw [fa_lt, i0]; omega) (by rw [fa_lt]; omega)⟩
      rw [f_X4_isAskedOfDay, if_neg (by rw [fa_lt, i0]; omega), if_pos (by rw [fa_le]; omega)]; rfl
    · by_cases c10 : 10 ≤ a
      · refine .inr ⟨a, .inr ⟨c10, ha⟩, rfl, fun μ => ?_, .inr ⟨fun μ => wi_n (by rw [fa_lt, fa_lt]; omega), fun μ => wi_y (by rw [fa_lt]; omega) (by rw [fa_lt]; omega)⟩⟩
        rw [f_X4_isAskedOfDay, if_neg (by rw [fa_lt, i0]; omega), if_neg (by rw [fa_le]; omega), jn_X4_isAskedOfDay_9, if_neg (by rw [fa_lt]; omega), if_neg (by rw [fa_le]; omega)]; rfl
      · refine .inl ⟨fun μ => ?_, fun μ => wi_n (by rw [fa_lt, fa_lt]; omega), fun μ => wi_n (by rw [fa_lt, fa_lt]; omega)⟩
        rw [f_X4_isAskedOfDay, if_neg (by rw [fa_lt, i0]; omega), if_neg (by rw [fa_le]; omega), jn_X4_isAskedOfDay_9, if_pos (by rw [fa_lt]; omega)]; rfl
theorem t_day (x1 x2 x3 x4 x5 : Int32) (μ : Mem) (h : Inv μ) : ∃ (r : Int32) (μ1 μ2 : Mem), f_X4_day x1 x2 x3 x4 x5 μ = some (r, μ1) ∧ f_X5_day x1 x2 x3 x4 x5 μ1 = some (r, μ2) ∧ Inv μ2 := by
  obtain ⟨⟨d, hI⟩, ht, hf⟩ := h
  rcases ix7 (x := x1) (n := 4) (by omega) with hx | ⟨k, hk, rfl⟩
  · exact ⟨-1, up μ 0 11 0, _, by simp only [f_X4_day, lt_eq, sh4_n hx, b2_some, e00, if_true], by simp only [f_X5_day, lt_eq, sh5_n hx, b2_some, e00, if_true], Inv_f hI ht 0⟩
  rcases ix7 (x := x2) (n := 3) (by omega) with hz | ⟨l, hl, rfl⟩
  · exact ⟨-2, up μ 0 11 0, _, by simp only [f_X4_day, lt_eq, sh4_y hk, ln4_n hz, b2_some, e10, if_false, e00, if_true], by simp only [f_X5_day, lt_eq, sh5_y hk, ln5_n hz, b2_some, e10, if_false, e00, if_true], Inv_f hI ht 0⟩
  have t20 : (20 : Int32).toInt = 20 := by decide
  rcases pk_ix x4 (n := 21) (by omega) with hn | hn | ⟨n, hn, rfl⟩
  · exact ⟨-2, up μ 0 11 0, _, by simp only [f_X4_day, lt_eq, sh4_y hk, ln4_y hl, b2_some, e10, if_false, hn, if_true], by simp only [f_X5_day, lt_eq, sh5_y hk, ln5_y hl, b2_some, e10, if_false, wi_n (Or.inl hn), e00, if_true], Inv_f hI ht 0⟩
  · have c2 : (20 : Int32) < x4 := by rw [l_20, le_succ (by omega)]; exact hn
    exact ⟨-2, up μ 0 11 0, _, by simp only [f_X4_day, lt_eq, sh4_y hk, ln4_y hl, b2_some, e10, if_false, nn_of hn (by omega), c2, if_true], by simp only [f_X5_day, lt_eq, sh5_y hk, ln5_y hl, b2_some, e10, if_false, wi_n (Or.inr c2), e00, if_true], Inv_f hI ht 0⟩
  have cn1 : ¬ nI n < 0 := nI_pos (by omega)
  have cn2 : ¬ (20 : Int32) < nI n := by rw [l_20, q_lt (by omega) (by omega)]; omega
  have wn : ∀ ν, f_X5_within (nI n) 0 20 ν = some (nI 1, ν) := fun ν => wi_y cn1 cn2
  have n2 : (2 : Int32) * nI n = nI (2 * n) := by rw [l_2, q_mul]
  rcases asked x5 with ⟨q1, q2, q3⟩ | ⟨a, ha, rfl, q1, q2⟩
  · exact ⟨-2, up μ 0 11 0, _, by simp only [f_X4_day, lt_eq, sh4_y hk, ln4_y hl, b2_some, e10, if_false, cn1, cn2, q1, e00, if_true], by simp only [f_X5_day, lt_eq, sh5_y hk, ln5_y hl, b2_some, e10, if_false, wn, q2, q3, e00, if_true], Inv_f hI ht 0⟩
  have hJ : Iv (up μ 0 11 0) d := Iv_u0 hI (by omega)
  have R := hJ.2.2.2.2.1 k hk
  obtain ⟨sz, n1, n2', n3⟩ := R.2.1
  have CL : f_X4_day (nI k) (nI l) x3 (nI n) (nI a) μ = b2 (f_X2_faultAs (35 + 2 * k) (nI l) (up μ 0 11 0)) fun x10 μ9 => if x10 = 0 then b2 (f_X2_hasCells (35 + 2 * k) x3 (nI (2 * n)) μ9) fun x22 μ21 => if x22 = 0 then jn_X4_day_81 x3 (nI n) (nI a) (35 + 2 * k) 3 μ21 else jn_X4_day_81 x3 (nI n) (nI a) (35 + 2 * k) x10 μ21 else jn_X4_day_81 x3 (nI n) (nI a) (35 + 2 * k) x10 μ9 := by
    simp (disch := omega) only [f_X4_day, lt_eq, sh4_y hk, ln4_y hl, b2_some, e10, if_false, cn1, cn2, q1, q_ck, shc_n hk, n2]
  have ML : ∀ ν : Mem, f_X5_day (nI k) (nI l) x3 (nI n) (nI a) ν = jn_X5_day_57 (nI k) (nI l) x3 (nI n) (nI a) (up ν 43 0 0) := by
    intro ν
    rcases q2 with q2 | ⟨q2, q3⟩
    · simp only [f_X5_day, lt_eq, sh5_y hk, ln5_y hl, b2_some, e10, if_false, wn, q2]
    · simp only [f_X5_day, lt_eq, sh5_y hk, ln5_y hl, b2_some, e10, if_false, wn, q2, q3, e00, if_true]
  have FF : ∀ e : Nat, 1 ≤ e → e ≤ 3 → f_X4_day (nI k) (nI l) x3 (nI n) (nI a) μ = jn_X4_day_81 x3 (nI n) (nI a) (35 + 2 * k) (nI e) (up μ 0 11 0) → f_X5_against (nI k) (nI l) x3 (nI (2 * n)) (up (up (up μ 0 11 0) 0 11 (nI e)) 43 0 0) = some (nI e, up (up (up μ 0 11 0) 0 11 (nI e)) 43 0 0) → ∃ (r : Int32) (μ1 μ2 : Mem), f_X4_day (nI k) (nI l) x3 (nI n) (nI a) μ = some (r, μ1) ∧ f_X5_day (nI k) (nI l) x3 (nI n) (nI a) μ1 = some (r, μ2) ∧ Inv μ2 := by
    intro e e1 e3 u v
    have ne : ¬ nI e = 0 := nz (by omega) (by omega)
    refine ⟨-10 - nI e, up (up μ 0 11 0) 0 11 (nI e), up (up (up (up μ 0 11 0) 0 11 (nI e)) 43 0 0) 43 0 (nI e), ?_, ?_, Inv_ff hI ht 0 (nI e)⟩
    · rw [u, jn_X4_day_81, if_neg ne]; rfl
    · rw [ML, jn_X5_day_57, n2, v, b2_some, if_neg ne]; rfl
  have u5 : ∀ e : Int32, up (up (up μ 0 11 0) 0 11 e) 43 0 0 45 k = nI sz := fun e => by rw [up_ne (by omega), up_ne (by omega)]; exact n3
  have u4 : ∀ e : Int32, up (up (up μ 0 11 0) 0 11 e) 43 0 0 44 k = up μ 0 11 0 44 k := fun e => by rw [up_ne (by omega), up_ne (by omega)]
  rcases R.1 with ⟨a1, a2⟩ | ⟨a1, l', a2, a3, a4⟩
  · apply FF 1 (by omega) (by omega)
    · rw [CL, f_X2_faultAs, a1, if_pos (e00 ▸ trivial), b2_some, if_neg (by decide)]; rfl
    · exact (m_ag (l' := 0) hk n1 (u5 _)).1 (by rw [u4]; exact a2)
  by_cases cl : l' = l
  · subst cl
    have fa : f_X2_faultAs (35 + 2 * k) (nI l') (up μ 0 11 0) = some (0, up μ 0 11 0) := by
      rw [f_X2_faultAs, a1, if_neg (e10 ▸ not_false), a3, if_pos rfl]
    by_cases hc : HC sz x3 (nI (2 * n))
    · obtain ⟨i, m, p1, p2, p3⟩ := HC_nat n1 hc
      subst p1
      have m2 : m = 2 * n := by
        rw [q_eq (by omega) (by omega)] at p2; omega
      subst m2
      have w := hI.1
      have w1 := w.1
      have CL2 : f_X4_day (nI k) (nI l') (nI i) (nI n) (nI a) μ = jn_X4_day_81 (nI i) (nI n) (nI a) (35 + 2 * k) 0 (up μ 0 11 0) := by
        rw [CL, fa, b2_some, if_pos rfl, hc_y n2' n1 hc, b2_some, if_neg (e10 ▸ not_false)]
      by_cases h0 : d 0 0 = 0
      · have b5 := hJ.2.1.1
        have b6 := (Iv_u43 (i := 0) (v := 0) hJ (by omega)).2.2.1.1
        rw [h0] at b5 b6
        refine ⟨-3, up μ 0 11 0, up (up μ 0 11 0) 43 0 0, ?_, ?_, Inv_f hI ht 0⟩
        · rw [CL2, jn_X4_day_81, if_pos rfl, th_n b5, b2_some, if_pos (e00 ▸ trivial)]
        · rw [ML, jn_X5_day_57, n2, (m_ag (l' := 0) hk n1 (by rw [up_ne (by omega)]; exact n3)).2.2.2.1 (by rw [up_ne (by omega)]; exact a4) hl hc, b2_some, if_pos rfl, b6, if_pos (e00 ▸ trivial)]
      · have n0 : ¬ nI (d 0 0) = 0 := nz (by omega) (by omega)
        have x12 : (60 : Int32) * nI k + nI i = nI (60 * k + i) := by rw [l_60, q_mul, q_add]
        have MM : ∀ ν : Mem, ν 44 k = nI l' → ν 45 k = nI sz → ν 43 5 = nI (d 0 0) → jn_X5_day_57 (nI k) (nI l') (nI i) (nI n) (nI a) ν = s1 (lp_X5_day_103 (nI n) (nI a) (nI (60 * k + i)) FU 0 ν) (fun μ16 => b1 (f_X5_keep μ16) fun μ17 => b2 (f_X5_goDay (nI (60 * k + i)) (nI n) μ17) fun x19 μ18 => b2 (f_X5_tellDay (nI a) μ18) fun x21 μ20 => b1 (f_X5_putBack μ20) fun μ22 => if nI a = 1 then some (x19, μ22) else if x19 = -9 then some (x21, μ22) else some (-100 - x19, μ22)) (fun o => some o) := by
          intro ν g1 g2 g3
          rw [jn_X5_day_57, n2, (m_ag (l' := 0) hk n1 g2).2.2.2.1 g1 hl hc, b2_some, if_pos rfl, g3, if_neg n0, lt_eq, x12]
        have CC : f_X4_day (nI k) (nI l') (nI i) (nI n) (nI a) μ = b2 (f_X4_areActs (35 + 2 * k) (nI i) (nI n) (up μ 0 11 0)) fun x14 μ13 => if x14 = 0 then some (-2, μ13) else b2 (f_X4_supposeDay (35 + 2 * k) (nI i) (nI n) μ13) fun x16 μ15 => b2 (f_X4_answerOfDay x16 (nI a) μ15) fun x18 μ17 => some (x18, μ17) := by
          rw [CL2, jn_X4_day_81, if_pos rfl, th_y hJ.2.1.1 (by omega) w1, b2_some, if_neg (e10 ▸ not_false)]
        rcases day_acts (k := k) (i := i) (n := n) (μ := up μ 0 11 0) (ν := up (up μ 0 11 0) 43 0 0) (x5 := nI a) hk (by omega) (fun j hj => by rw [up_ne (by omega)]; exact R.2.2 j hj) n 0 FU FU (by omega) (by unfold FU; omega) (by unfold FU; omega) with ⟨g1, g2, g3⟩ | ⟨g1, g2⟩
        · have A1 : f_X4_areActs (35 + 2 * k) (nI i) (nI n) (up μ 0 11 0) = some (1, up μ 0 11 0) := by
            have g1' : lp_X4_areActs_2 (35 + 2 * k) (nI i) (nI n) FU 0 (up μ 0 11 0) = some (.inl (up μ 0 11 0)) := g1
            rw [f_X4_areActs, g1', s1_inl]
          have hok : ∀ s, s < n → okA (up μ 0 11 0 (36 + 2 * k) (i + 2 * s)) (up μ 0 11 0 (36 + 2 * k) (i + 2 * s + 1)) := fun s hs => g3 s (by omega) hs
          obtain ⟨y16, y18, y21, νa, μc, νb, νc, z1, z2, z3, _⟩ := day_J (V := fun j => up μ 0 11 0 (36 + 2 * k) j) (ν := up μ 0 11 0) hk (by omega) ha hok w h0 hJ.2.1 hJ.2.2.1 (fun _ _ => rfl) (fun j hj => R.2.2 j hj)
          -- the reference's side, on what the class left
          have F : ∀ c, c ≠ 43 → (c < 8 ∨ 13 < c) → (c < 23 ∨ 31 < c) → up μc 43 0 0 c = up μ 0 11 0 c := fun c h1 h2 h3 => by rw [up_ne h1, z3 c h2 h3]
          have F3 : ∀ j, j ≠ 0 → up μc 43 0 0 43 j = up μ 0 11 0 43 j := fun j hj => by rw [up_ot hj, z3 43 (by omega) (by omega)]
          rcases day_acts (k := k) (i := i) (n := n) (μ := up μ 0 11 0) (ν := up μc 43 0 0) (x5 := nI a) hk (by omega) (fun j hj => by rw [F 46 (by omega) (by omega) (by omega)]; exact R.2.2 j hj) n 0 FU FU (by omega) (by unfold FU; omega) (by unfold FU; omega) with ⟨_, g2', _⟩ | ⟨g1', _⟩
          · obtain ⟨μk, k0, k1, k2, k3, k4, k5⟩ := m_keep (up μc 43 0 0)
            have hmk : BKm μk d := BKm_fr hJ.2.2.1 (fun j h1 h2 => by rw [k1 43 (by omega), F3 j (by omega)]) (fun c h1 h2 => by rw [k1 c (by omega), F c (by omega) (by omega) (by omega)])
            obtain ⟨x16, x18, x21, μ', μc', ν', ν'', w1', w2', w3', w4', w5', w6', w7', w8'⟩ := day_J (V := fun j => up μ 0 11 0 (36 + 2 * k) j) (ν := μk) hk (by omega) ha hok w h0 hJ.2.1 hmk (fun _ _ => rfl) (fun j hj => by rw [k1 46 (by omega), F 46 (by omega) (by omega) (by omega)]; exact R.2.2 j hj)
            rw [z1] at w1'
            injection w1' with w1'
            injection w1' with e16 eμ
            subst e16 eμ
            rw [z2] at w2'
            injection w2' with w2'
            injection w2' with e18 eμc
            subst e18 eμc
            obtain ⟨μp, p0, p1', p2', p3', p4', p5', p6'⟩ := m_putBack ν''
            have q61 : ν'' 61 = μk 61 := w6' 61 (by omega) (by omega) (by omega) (by omega)
            have Fp : ∀ c, c ≠ 43 → c ≠ 48 → c ≠ 50 → (c < 8 ∨ 13 < c) → (c < 23 ∨ 31 < c) → (c < 55 ∨ 61 < c) → μp c = up μ 0 11 0 c := fun c h1 h2 h3 h4 h5 h6 => by rw [p1' c h1 h2 h3, w6' c h1 h2 h3 (by omega), k1 c (by omega), F c h1 h4 h5]
            have Fp3 : ∀ j, j < 7 ∨ 9 < j → j ≠ 24 → j ≠ 0 → μp 43 j = up μ 0 11 0 43 j := fun j h1 h2 h3 => by rw [p6' j h1, w7' j h1 h2, k1 43 (by omega), F3 j h3]
            have Fp0 : μp 43 0 = 0 := by rw [p6' 0 (by omega), w7' 0 (by omega) (by omega), k1 43 (by omega), up_at]
            have hmp : BKm μp d := by
              obtain ⟨m1, m2, m3, m4, m5, m6, m7⟩ := hJ.2.2.1
              have w2 := w.2.1
              refine ⟨by rw [Fp3 5 (by omega) (by omega) (by omega)]; exact m1, by rw [Fp3 6 (by omega) (by omega) (by omega)]; exact m2, by rw [p3', q61, k3, F3 7 (by omega)]; exact m3, by rw [p4', q61, k4, F3 8 (by omega)]; exact m4, by rw [p5', q61, k5, F3 9 (by omega)]; exact m5, fun j hj => ?_, fun j hj => ?_⟩
              · rw [Fp 47 (by omega) (by omega) (by omega) (by omega) (by omega) (by omega), Fp 49 (by omega) (by omega) (by omega) (by omega) (by omega) (by omega), (p2' j (by omega)).1, q61, (k2 j (by omega)).1, F 48 (by omega) (by omega) (by omega)]
                exact m6 j hj
              · rw [Fp 51 (by omega) (by omega) (by omega) (by omega) (by omega) (by omega), (p2' j (by omega)).2, q61, (k2 j (by omega)).2, F 50 (by omega) (by omega) (by omega)]
                exact m7 j hj
            obtain ⟨_, j2, j3, j4, j5, j6⟩ := hJ
            have Ip : Iv μp d := ⟨w, BKc_fr j2 (Fp _ (by omega) (by omega) (by omega) (by omega) (by omega) (by omega)) (Fp _ (by omega) (by omega) (by omega) (by omega) (by omega) (by omega)) (Fp _ (by omega) (by omega) (by omega) (by omega) (by omega) (by omega)) (Fp _ (by omega) (by omega) (by omega) (by omega) (by omega) (by omega)) (Fp _ (by omega) (by omega) (by omega) (by omega) (by omega) (by omega)) (Fp _ (by omega) (by omega) (by omega) (by omega) (by omega) (by omega)), hmp, IA_fr j4 (fun c h1 h2 => Fp c (by omega) (by omega) (by omega) (by omega) (by omega) (by omega)) (by rw [Fp 0 (by omega) (by omega) (by omega) (by omega) (by omega) (by omega)]), fun k' hk' => RS_fr (j5 k' hk') (Fp _ (by omega) (by omega) (by omega) (by omega) (by omega) (by omega)) (Fp _ (by omega) (by omega) (by omega) (by omega) (by omega) (by omega)) (by rw [Fp 44 (by omega) (by omega) (by omega) (by omega) (by omega) (by omega)]) (by rw [Fp 45 (by omega) (by omega) (by omega) (by omega) (by omega) (by omega)]) (fun j hj => by rw [Fp 46 (by omega) (by omega) (by omega) (by omega) (by omega) (by omega)]), RD_fr j6 (by rw [Fp 0 (by omega) (by omega) (by omega) (by omega) (by omega) (by omega)]) (Fp3 29 (by omega) (by omega) (by omega)) (fun c hc => Fp c (by omega) (by omega) (by omega) (by omega) (by omega) (by omega))⟩
            refine ⟨y18, μc, μp, ?_, ?_, ⟨d, Ip⟩, ?_, ?_⟩
            · rw [CC, A1, b2_some, if_neg (by decide), z1, b2_some, z2]; rfl
            · have g2'' : lp_X5_day_103 (nI n) (nI a) (nI (60 * k + i)) FU 0 (up μc 43 0 0) = some (.inl (up μc 43 0 0)) := g2'
              rw [ML, MM _ (by rw [F 44 (by omega) (by omega) (by omega)]; exact a4) (by rw [F 45 (by omega) (by omega) (by omega)]; exact n3) (by rw [F3 5 (by omega)]; exact j3.1), g2'', s1_inl, k0, b1_some, w4', b2_some, w5', b2_some, p0, b1_some]
              by_cases c1 : a = 1
              · rw [if_pos c1] at w8'
                rw [if_pos (by rw [c1]; rfl), w8']
              · rw [if_neg c1] at w8'
                rw [if_neg (by rw [l_1, q_eq (by omega) (by omega)]; exact c1)]
                by_cases c9 : y16 = -9
                · rw [if_pos c9] at w8'
                  rw [if_pos c9, w8']
                · rw [if_neg c9] at w8'
                  rw [if_neg c9, w8']
            · rw [Fp 0 (by omega) (by omega) (by omega) (by omega) (by omega) (by omega), Fp3 1 (by omega) (by omega) (by omega), up_ot (by omega), up_ne (by omega)]; exact ht
            · rw [Fp 0 (by omega) (by omega) (by omega) (by omega) (by omega) (by omega), Fp0, up_at]
          · rw [g1] at g1'
            injection g1' with g1'
            injection g1'
        · refine ⟨-2, up μ 0 11 0, up (up μ 0 11 0) 43 0 0, ?_, ?_, Inv_f hI ht 0⟩
          · have g1' : lp_X4_areActs_2 (35 + 2 * k) (nI i) (nI n) FU 0 (up μ 0 11 0) = some (.inr (0, up μ 0 11 0)) := g1
            rw [CC, f_X4_areActs, g1', s1_inr, b2_some, if_pos rfl]
          · have g2' : lp_X5_day_103 (nI n) (nI a) (nI (60 * k + i)) FU 0 (up (up μ 0 11 0) 43 0 0) = some (.inr (-2, up (up μ 0 11 0) 43 0 0)) := g2
            rw [ML, MM _ (by rw [up_ne (by omega)]; exact a4) (by rw [up_ne (by omega)]; exact n3) ((Iv_u43 (i := 0) (v := 0) hJ (by omega)).2.2.1.1), g2', s1_inr]
    · apply FF 3 (by omega) (by omega)
      · rw [CL, fa, b2_some, if_pos rfl, hc_n n2' n1 hc, b2_some, if_pos (e00 ▸ trivial)]; rfl
      · exact (m_ag (l' := 0) hk n1 (u5 _)).2.2.2.2 (by rw [u4]; exact a4) hl (nI_pos (by omega)) hc
  · apply FF 2 (by omega) (by omega)
    · rw [CL, f_X2_faultAs, a1, if_neg (e10 ▸ not_false), a3, if_neg (by rw [q_eq (by omega) (by omega)]; exact cl), b2_some, if_neg (by decide)]; rfl
    · exact (m_ag (l' := l') hk n1 (u5 _)).2.1 (by rw [u4]; exact a4) a2 hl cl
