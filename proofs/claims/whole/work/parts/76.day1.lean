theorem m_ag {k l n l' : Nat} {x y : Int32} {μ : Mem} (hk : k < 4) (hn : n ≤ 60) (h45 : μ 45 k = nI n) : (μ 44 k = -9 → f_X5_against (nI k) (nI l) x y μ = some (1, μ)) ∧ (μ 44 k = nI l' → l' < 3 → l < 3 → l' ≠ l → f_X5_against (nI k) (nI l) x y μ = some (2, μ)) ∧ (μ 44 k = nI l → l < 3 → y < 0 → f_X5_against (nI k) (nI l) x y μ = some (4, μ)) ∧ (μ 44 k = nI l → l < 3 → HC n x y → f_X5_against (nI k) (nI l) x y μ = some (0, μ)) ∧ (μ 44 k = nI l → l < 3 → ¬ y < 0 → ¬ HC n x y → f_X5_against (nI k) (nI l) x y μ = some (3, μ)) := by
  have g := nI_toInt (show n < 2147483648 by omega)
  refine ⟨fun e => ?_, fun e l3' l3 ne => ?_, fun e l3 hy => ?_, fun e l3 hc => ?_, fun e l3 hy hc => ?_⟩
  · rw [f_X5_against, q_ck hk (by omega), q_cl (by omega), e, if_pos rfl, jn_X5_against_23, q_ck hk (by omega), q_cl (by omega), e, if_pos rfl]
  · rw [f_X5_against, q_ck hk (by omega), q_cl (by omega), e, if_neg (by rw [q_n9 (by omega)]; exact not_false), q_ck hk (by omega), if_neg (by rw [q_eq (by omega) (by omega)]; exact ne)]
  · rw [f_X5_against, q_ck hk (by omega), q_cl (by omega), e, if_neg (by rw [q_n9 (by omega)]; exact not_false), q_ck hk (by omega), if_pos rfl, jn_X5_against_23, q_ck hk (by omega), q_cl (by omega), e, if_neg (by rw [q_n9 (by omega)]; exact not_false), if_neg (Int32.not_le.mpr hy)]
  · obtain ⟨a1, a2, a3⟩ := hc
    have s := fb_subI (x := nI n) (y := x) (by omega) (by omega)
    rw [f_X5_against, q_ck hk (by omega), q_cl (by omega), e, if_neg (by rw [q_n9 (by omega)]; exact not_false), q_ck hk (by omega), if_pos rfl, jn_X5_against_23, q_ck hk (by omega), q_cl (by omega), e, if_neg (by rw [q_n9 (by omega)]; exact not_false), if_pos (by rw [fa_le, i0]; omega), if_neg (by rw [fa_lt, i0]; omega), q_ck hk (by omega), h45, if_neg (by rw [fa_lt, g]; omega), q_ck hk (by omega), if_pos (by rw [fa_le, s, g]; omega)]
  · unfold HC at hc
    rw [f_X5_against, q_ck hk (by omega), q_cl (by omega), e, if_neg (by rw [q_n9 (by omega)]; exact not_false), q_ck hk (by omega), if_pos rfl, jn_X5_against_23, q_ck hk (by omega), q_cl (by omega), e, if_neg (by rw [q_n9 (by omega)]; exact not_false), if_pos (Int32.not_lt.mp hy)]
    by_cases c1 : x < 0
    · rw [if_pos c1]
    · rw [if_neg c1, q_ck hk (by omega), h45]
      by_cases c2 : nI n < x
      · rw [if_pos c2]
      · rw [if_neg c2, q_ck hk (by omega)]
        rw [fa_lt, i0] at c1 hy
        rw [fa_lt, g] at c2
        have s := fb_subI (x := nI n) (y := x) (by omega) (by omega)
        rw [if_neg (by rw [fa_le, s, g]; omega)]
def okA (v on : Int32) : Prop := (∃ p u, p < 3 ∧ u ≤ 9 ∧ (p = 2 → u ≤ 7) ∧ on = nI (20 + p) ∧ v = nI u) ∨ (∃ j u, j < 7 ∧ 1 ≤ u ∧ u ≤ 9 ∧ on = nI j ∧ v = nI u) ∨ (∃ j u, j < 7 ∧ 1 ≤ u ∧ u ≤ 9 ∧ on = nI (10 + j) ∧ v = nI u)
theorem l_17 : (17 : Int32) = nI 17 := rfl
theorem l_22 : (22 : Int32) = nI 22 := rfl
theorem isA54 {v : Int32} {a b : Nat} {μ ν : Mem} (ha : a < 2) (hb : b < 2) (h : a + b = 1) : ∃ r, jn_X4_isAct_54 v (nI a) (nI b) μ = some (r, μ) ∧ jn_X5_isPair_51 v ν = some (r, ν) ∧ (r = nI 0 ∨ (r = nI 1 ∧ ∃ u, 1 ≤ u ∧ u ≤ 9 ∧ v = nI u)) := by
  rcases ixl v with hv | ⟨u, u1, u2, rfl⟩
  · refine ⟨nI 0, ?_, ?_, .inl rfl⟩
    · rcases (show (a = 0 ∧ b = 1) ∨ (a = 1 ∧ b = 0) by omega) with ⟨rfl, rfl⟩ | ⟨rfl, rfl⟩
      · simp only [jn_X4_isAct_54, e00, e10, if_true, if_false, (il_n hv).1, b2_some]; rfl
      · simp only [jn_X4_isAct_54, e00, e10, if_true, if_false, (il_n hv).1, b2_some]; rfl
    · simp only [jn_X5_isPair_51, (il_n hv).2, b2_some, e00, if_true]; rfl
  · refine ⟨nI 1, ?_, ?_, .inr ⟨rfl, u, u1, u2, rfl⟩⟩
    · rcases (show (a = 0 ∧ b = 1) ∨ (a = 1 ∧ b = 0) by omega) with ⟨rfl, rfl⟩ | ⟨rfl, rfl⟩
      · simp only [jn_X4_isAct_54, e00, e10, if_true, if_false, (il_y u1 u2).1, b2_some]; rfl
      · simp only [jn_X4_isAct_54, e00, e10, if_true, if_false, (il_y u1 u2).1, b2_some]; rfl
    · simp only [jn_X5_isPair_51, (il_y u1 u2).2, b2_some, e10, if_false]; rfl
theorem act_j (v on : Int32) (μ ν : Mem) : ∃ r, f_X4_isAct v on μ = some (r, μ) ∧ f_X5_isPair v on ν = some (r, ν) ∧ (r = nI 0 ∨ (r = nI 1 ∧ okA v on)) := by
  rcases pk_ix on (n := 23) (by omega) with h | h | ⟨j, hj, rfl⟩
  · refine ⟨nI 0, ?_, ?_, .inl rfl⟩
    · have a1 : on < 20 := by rw [fa_lt] at *; rw [i0] at h; have : (20 : Int32).toInt = 20 := by decide
                              omega
      have a2 : on < 10 := by rw [fa_lt] at *; rw [i0] at h; have : (10 : Int32).toInt = 10 := by decide
                              omega
      simp only [f_X4_isAct, a1, if_true, jn_X4_isAct_21, h, jn_X4_isAct_35, jn_X4_isAct_36, a2, jn_X4_isAct_53]; rfl
    · have a1 : on < 20 := by rw [fa_lt] at *; rw [i0] at h; have : (20 : Int32).toInt = 20 := by decide
                              omega
      have a2 : on < 10 := by rw [fa_lt] at *; rw [i0] at h; have : (10 : Int32).toInt = 10 := by decide
                              omega
      simp only [f_X5_isPair, wi_n (Or.inl a1), wi_n (Or.inl h), wi_n (Or.inl a2), b2_some, e00, if_true]; rfl
  · rw [fa_le, nI_toInt (by omega)] at h
    have t22 : (22 : Int32).toInt = 22 := by decide
    have t20 : (20 : Int32).toInt = 20 := by decide
    have t17 : (17 : Int32).toInt = 17 := by decide
    have t16 : (16 : Int32).toInt = 16 := by decide
    have t10 : (10 : Int32).toInt = 10 := by decide
    have t7 : (7 : Int32).toInt = 7 := by decide
    have t6 : (6 : Int32).toInt = 6 := by decide
    refine ⟨nI 0, ?_, ?_, .inl rfl⟩
    · rw [f_X4_isAct, if_neg (by rw [fa_lt]; omega), if_pos (by rw [fa_lt]; omega), jn_X4_isAct_21, if_neg (by rw [fa_lt, i0]; omega), if_pos (by rw [fa_le]; omega), jn_X4_isAct_35, jn_X4_isAct_36, if_neg (by rw [fa_lt]; omega), if_pos (by rw [fa_le]; omega)]; rfl
    · have b1' : (22 : Int32) < on := by rw [fa_lt]; omega
      have b2' : (6 : Int32) < on := by rw [fa_lt]; omega
      have b3' : (16 : Int32) < on := by rw [fa_lt]; omega
      simp only [f_X5_isPair, wi_n (Or.inr b1'), wi_n (Or.inr b2'), wi_n (Or.inr b3'), b2_some, e00, if_true]; rfl
  · by_cases c20 : 20 ≤ j
    · obtain ⟨p, rfl⟩ : ∃ p, j = 20 + p := ⟨j - 20, by omega⟩
      have w1 : ∀ ν, f_X5_within (nI (20 + p)) 20 22 ν = some (nI 1, ν) := fun ν => by rw [l_20, l_22, wi_j (by omega) (by omega) (by omega)]
      rcases ix7' (x := v) (n := if p = 2 then 8 else 10) (by split <;> omega) with hv | ⟨u, hu, rfl⟩
      · refine ⟨nI 0, ?_, ?_, .inl rfl⟩
        · simp (disch := omega) only [f_X4_isAct, l_20, l_22, q_lt]
          rw [if_neg (by omega), if_neg (by omega), q_sub (by omega), show 20 + p - 20 = p by omega, ip_n (by omega) hv, b2_some, ckb_0]
        · simp only [f_X5_isPair, w1, b2_some, e10, if_false]
          by_cases c : p = 2
          · subst c
            rw [if_pos rfl] at hv
            rw [if_pos (by decide), wi8_n hv, b2_some, ckb_0]
          · rw [if_neg c] at hv
            rw [if_neg (by rw [l_22, q_eq (by omega) (by omega)]; omega), wi_n (by rw [l_9, le_succ (by omega)]; exact hv), b2_some, ckb_0]
      · have u9 : u ≤ 9 := by revert hu; split <;> omega
        refine ⟨nI 1, ?_, ?_, .inr ⟨rfl, .inl ⟨p, u, by omega, u9, fun e => by rw [if_pos e] at hu; omega, rfl, rfl⟩⟩⟩
        · simp (disch := omega) only [f_X4_isAct, l_20, l_22, q_lt]
          rw [if_neg (by omega), if_neg (by omega), q_sub (by omega), show 20 + p - 20 = p by omega, ip_y (by omega) hu, b2_some, ckb_1]
        · simp only [f_X5_isPair, w1, b2_some, e10, if_false]
          by_cases c : p = 2
          · subst c
            rw [if_pos rfl] at hu
            rw [if_pos (by decide), wi8_y (by omega), b2_some, ckb_1]
          · rw [if_neg (by rw [l_22, q_eq (by omega) (by omega)]; omega), l_0, l_9, wi_j (by omega) u9 (by omega), b2_some, ckb_1]
    · have n20 : ∀ ν, f_X5_within (nI j) 20 22 ν = some (nI 0, ν) := fun ν => wi_n (.inl (by rw [l_20, q_lt (by omega) (by omega)]; omega))
      have hA : f_X4_isAct v (nI j) μ = jn_X4_isAct_21 v (nI j) μ := by rw [f_X4_isAct, l_20, if_pos (by rw [q_lt (by omega) (by omega)]; omega)]
      rw [hA]
      by_cases c7 : j < 7
      · have w6 : ∀ ν, f_X5_within (nI j) 0 6 ν = some (nI 1, ν) := fun ν => by rw [l_0, l_6, wi_j (by omega) (by omega) (by omega)]
        obtain ⟨r, r1, r2, r3⟩ := isA54 (v := v) (a := 1) (b := 0) (μ := μ) (ν := ν) (by omega) (by omega) (by omega)
        refine ⟨r, ?_, ?_, ?_⟩
        · rw [jn_X4_isAct_21, if_neg (nI_pos (by omega)), l_7, if_neg (by rw [q_le (by omega) (by omega)]; omega), jn_X4_isAct_36, l_10, if_pos (by rw [q_lt (by omega) (by omega)]; omega), jn_X4_isAct_53]
          exact r1
        · simp only [f_X5_isPair, n20, b2_some, e00, if_true, w6, e10, if_false]
          exact r2
        · rcases r3 with r3 | ⟨r3, u, u1, u2, u3⟩
          · exact .inl r3
          · exact .inr ⟨r3, .inr (.inl ⟨j, u, c7, u1, u2, rfl, u3⟩)⟩
      · have w6 : ∀ ν, f_X5_within (nI j) 0 6 ν = some (nI 0, ν) := fun ν => wi_n (.inr (by rw [l_6, q_lt (by omega) (by omega)]; omega))
        have hB : jn_X4_isAct_21 v (nI j) μ = jn_X4_isAct_36 v (nI j) 0 μ := by
          rw [jn_X4_isAct_21, if_neg (nI_pos (by omega)), l_7, if_pos (by rw [q_le (by omega) (by omega)]; omega), jn_X4_isAct_35]
        rw [hB]
        by_cases c10 : 10 ≤ j ∧ j < 17
        · have w16 : ∀ ν, f_X5_within (nI j) 10 16 ν = some (nI 1, ν) := fun ν => by rw [l_10, l_16, wi_j (by omega) (by omega) (by omega)]
          obtain ⟨r, r1, r2, r3⟩ := isA54 (v := v) (a := 0) (b := 1) (μ := μ) (ν := ν) (by omega) (by omega) (by omega)
          refine ⟨r, ?_, ?_, ?_⟩
          · rw [jn_X4_isAct_36, if_neg (by rw [l_10, q_lt (by omega) (by omega)]; omega), if_neg (by rw [l_17, q_le (by omega) (by omega)]; omega)]
            exact r1
          · simp only [f_X5_isPair, n20, b2_some, e00, if_true, w6, w16, e10, if_false]
            exact r2
          · rcases r3 with r3 | ⟨r3, u, u1, u2, u3⟩
            · exact .inl r3
            · exact .inr ⟨r3, .inr (.inr ⟨j - 10, u, by omega, u1, u2, by rw [show 10 + (j - 10) = j by omega], u3⟩)⟩
        · refine ⟨nI 0, ?_, ?_, .inl rfl⟩
          · rw [jn_X4_isAct_36]
            by_cases c : j < 10
            · rw [if_pos (by rw [l_10, q_lt (by omega) (by omega)]; exact c)]; rfl
            · rw [if_neg (by rw [l_10, q_lt (by omega) (by omega)]; exact c), if_pos (by rw [l_17, q_le (by omega) (by omega)]; omega)]; rfl
          · have w16 : ∀ ν, f_X5_within (nI j) 10 16 ν = some (nI 0, ν) := fun ν => wi_n (by rw [l_10, l_16, q_lt (by omega) (by omega), q_lt (by omega) (by omega)]; omega)
            simp only [f_X5_isPair, n20, b2_some, e00, if_true, w6, w16]; rfl
theorem day_acts {k i n : Nat} {μ ν : Mem} {x5 : Int32} (hk : k < 4) (hi : i + 2 * n ≤ 60) (e : ∀ j, j < 60 → ν 46 (60 * k + j) = μ (36 + 2 * k) j) : ∀ (m t f1 f2 : Nat), t + m = n → m < f1 → m < f2 → (lp_X4_areActs_2 (35 + 2 * k) (nI i) (nI n) f1 (nI t) μ = some (.inl μ) ∧ lp_X5_day_103 (nI n) x5 (nI (60 * k + i)) f2 (nI t) ν = some (.inl ν) ∧ ∀ s, t ≤ s → s < n → okA (μ (36 + 2 * k) (i + 2 * s)) (μ (36 + 2 * k) (i + 2 * s + 1))) ∨ (lp_X4_areActs_2 (35 + 2 * k) (nI i) (nI n) f1 (nI t) μ = some (.inr (0, μ)) ∧ lp_X5_day_103 (nI n) x5 (nI (60 * k + i)) f2 (nI t) ν = some (.inr (-2, ν))) := by
  intro m
  induction m with
  | zero =>
    intro t f1 f2 ht h1 h2
    obtain ⟨f1, rfl⟩ : ∃ m, f1 = m + 1 := ⟨f1 - 1, by omega⟩
    obtain ⟨f2, rfl⟩ : ∃ m, f2 = m + 1 := ⟨f2 - 1, by omega⟩
    have : t = n := by omega
    subst this
    exact .inl ⟨by rw [lp_X4_areActs_2, if_pos (Int32.le_refl _)], by rw [lp_X5_day_103, if_pos (Int32.le_refl _)], fun s a b => by omega⟩
  | succ m ih =>
    intro t f1 f2 ht h1 h2
    obtain ⟨f1, rfl⟩ : ∃ m, f1 = m + 1 := ⟨f1 - 1, by omega⟩
    obtain ⟨f2, rfl⟩ : ∃ m, f2 = m + 1 := ⟨f2 - 1, by omega⟩
    have ea := e (i + 2 * t) (by omega)
    have eb := e (i + 2 * t + 1) (by omega)
    rw [← Nat.add_assoc] at ea
    rw [show 60 * k + (i + 2 * t + 1) = 60 * k + i + 2 * t + 1 by omega] at eb
    obtain ⟨r, r1, r2, r3⟩ := act_j (μ (36 + 2 * k) (i + 2 * t)) (μ (36 + 2 * k) (i + 2 * t + 1)) μ ν
    have A : lp_X4_areActs_2 (35 + 2 * k) (nI i) (nI n) (f1 + 1) (nI t) μ = if r = 0 then some (.inr (0, μ)) else lp_X4_areActs_2 (35 + 2 * k) (nI i) (nI n) f1 (nI (t + 1)) μ := by
      rw [lp_X4_areActs_2, if_neg (show ¬ nI n ≤ nI t by rw [q_le (by omega) (by omega)]; omega)]
      simp (disch := omega) only [l_1, l_2, q_mul, q_add, q_ck, q_cl, show 35 + 2 * k + 1 = 36 + 2 * k by omega, r1, b2_some, lt_eq]
    have M : lp_X5_day_103 (nI n) x5 (nI (60 * k + i)) (f2 + 1) (nI t) ν = if r = 0 then some (.inr (-2, ν)) else lp_X5_day_103 (nI n) x5 (nI (60 * k + i)) f2 (nI (t + 1)) ν := by
      rw [lp_X5_day_103, if_neg (show ¬ nI n ≤ nI t by rw [q_le (by omega) (by omega)]; omega)]
      have l2 : (-2 : Int32) = -nI 2 := by decide
      simp (disch := omega) only [l_1, l2, l_2, q_mul, q_add, q_ck, q_cl, ea, eb, r2, b2_some, lt_eq]
    rw [A, M]
    rcases r3 with rfl | ⟨rfl, ok⟩
    · exact .inr ⟨if_pos (e00 ▸ trivial), if_pos (e00 ▸ trivial)⟩
    · rw [if_neg (e10 ▸ not_false), if_neg (e10 ▸ not_false)]
      rcases ih (t + 1) f1 f2 (by omega) (by omega) (by omega) with ⟨g1, g2, g3⟩ | g
      · refine .inl ⟨g1, g2, fun s a b => ?_⟩
        by_cases c : s = t
        · rw [c]; exact ok
        · exact g3 s (by omega) b
      · exact .inr g
/-! one act of a day, on both sides -/
theorem act_s {v on : Int32} {d : BD} {μ ν : Mem} (w : WFd d) (hb : BKc 8 μ d) (hm : BKm ν d) (ok : okA v on) : (f_X1_takeAct 8 v on μ = some (nI 0, μ) ∧ f_X5_does v on ν = some (nI 0, ν)) ∨ ∃ d' μ' ν', f_X1_takeAct 8 v on μ = some (nI 1, μ') ∧ f_X5_does v on ν = some (nI 1, ν') ∧ WFd d' ∧ BKc 8 μ' d' ∧ BKm ν' d' ∧ d' 0 0 = d 0 0 ∧ d' 0 1 = d 0 1 ∧ (∀ c, c < 8 ∨ 13 < c → μ' c = μ c) ∧ (∀ c, c ≠ 43 → c ≠ 48 → c ≠ 50 → ν' c = ν c) ∧ (∀ i, i < 7 ∨ 9 < i → ν' 43 i = ν 43 i) := by
  have w1 := w.1
  have w2 := w.2.1
  rcases ok with ⟨p, u, hp, u9, u7, rfl, rfl⟩ | ⟨j, u, hj, u1, u9, rfl, rfl⟩ | ⟨j, u, hj, u1, u9, rfl, rfl⟩
  · refine .inr ⟨dU d 0 (2 + p) u, up μ 8 (7 + p) (nI u), up ν 43 (7 + p) (nI u), ?_, ?_, WFd_p w (by omega) (by omega) u9, ?_, ?_, dU_ne (by omega), dU_ne (by omega), fun c hc => up_ne (by omega), fun c h1 h2 h3 => up_ne h1, fun i hi => up_ot (by omega)⟩
    · rw [f_X1_takeAct, l_20, if_neg (by rw [q_lt (by omega) (by omega)]; omega), q_sub (by omega), show 20 + p - 20 = p by omega, (pr_c (v := 0) (v' := nI u) hp).1]; rfl
    · rw [f_X5_does, l_20, if_neg (by rw [q_lt (by omega) (by omega)]; omega)]
      rcases (show p = 0 ∨ p = 1 ∨ p = 2 by omega) with rfl | rfl | rfl
      · rw [if_pos rfl]
        simp only [jn_X5_does_21, jn_X5_does_39, lt_eq, up_self]
        rw [if_neg (by decide), if_neg (by decide)]; rfl
      · rw [if_neg (by decide)]
        simp only [jn_X5_does_21, jn_X5_does_39, lt_eq, up_self]
        rw [if_pos (by decide), if_neg (by decide)]; rfl
      · rw [if_neg (by decide)]
        simp only [jn_X5_does_21, jn_X5_does_39, lt_eq, up_self]
        rw [if_neg (by decide), if_pos (by decide)]; rfl
    · have := BKc_p (q := 8) (p := 2 + p) (v := u) (by omega) hb
      rw [show 5 + (2 + p) = 7 + p by omega] at this
      exact this
    · have := BKm_p (p := 2 + p) (v := u) (by omega) hm
      rw [show 5 + (2 + p) = 7 + p by omega] at this
      exact this
  · by_cases c : j < d 0 0
    · refine .inr ⟨dU d 2 j u, up μ 10 j (nI u), up ν 48 j (nI u), ?_, ?_, WFd_i w (by omega) (by omega) (by omega) (by omega), BKc_i (q := 8) (i := 2) (by omega) (by omega) hb, BKm_i (i := 2) (by omega) (by omega) hm, dU_ne (by omega), dU_ne (by omega), fun c hc => up_ne (by omega), fun c h1 h2 h3 => up_ne h2, fun i hi => by rw [up_ne (by omega)]⟩
      · rw [f_X1_takeAct, l_20, if_pos (by rw [q_lt (by omega) (by omega)]; omega), l_10, if_pos (by rw [q_lt (by omega) (by omega)]; omega), c_hasLeft_y hb.1 (by omega) c, b2_some, if_neg (e10 ▸ not_false), q_ck hj (by omega), q_cl (by omega)]; rfl
      · rw [f_X5_does, l_20, if_pos (by rw [q_lt (by omega) (by omega)]; omega), l_10, if_pos (by rw [q_lt (by omega) (by omega)]; omega), m_isLeft_y hm.1 (by omega) c, b2_some, if_neg (e10 ▸ not_false), jn_X5_does_92, l_10, if_pos (by rw [q_lt (by omega) (by omega)]; omega), q_ck hj (by omega), q_cl (by omega)]; rfl
    · have cc : nI j < 0 ∨ nI (d 0 0) ≤ nI j := .inr (by rw [q_le (by omega) (by omega)]; omega)
      refine .inl ⟨?_, ?_⟩
      · rw [f_X1_takeAct, l_20, if_pos (by rw [q_lt (by omega) (by omega)]; omega), l_10, if_pos (by rw [q_lt (by omega) (by omega)]; omega), c_hasLeft_n hb.1 cc, b2_some, if_pos (e00 ▸ trivial)]; rfl
      · rw [f_X5_does, l_20, if_pos (by rw [q_lt (by omega) (by omega)]; omega), l_10, if_pos (by rw [q_lt (by omega) (by omega)]; omega), m_isLeft_n hm.1 cc, b2_some, if_pos (e00 ▸ trivial)]; rfl
  · have sb : nI (10 + j) - nI 10 = nI j := by rw [q_sub (by omega), show 10 + j - 10 = j by omega]
    by_cases c : j < d 0 1
    · refine .inr ⟨dU d 4 j u, up μ 12 j (nI u), up ν 50 j (nI u), ?_, ?_, WFd_i w (by omega) (by omega) (by omega) (by omega), BKc_i (q := 8) (i := 4) (by omega) (by omega) hb, BKm_i (i := 4) (by omega) (by omega) hm, dU_ne (by omega), dU_ne (by omega), fun c hc => up_ne (by omega), fun c h1 h2 h3 => up_ne h3, fun i hi => by rw [up_ne (by omega)]⟩
      · rw [f_X1_takeAct, l_20, if_pos (by rw [q_lt (by omega) (by omega)]; omega), l_10, if_neg (by rw [q_lt (by omega) (by omega)]; omega), sb, c_hasRight_y hb.2.1 (by omega) c, b2_some, if_neg (e10 ▸ not_false), q_ck hj (by omega), q_cl (by omega)]; rfl
      · rw [f_X5_does, l_20, if_pos (by rw [q_lt (by omega) (by omega)]; omega), l_10, if_neg (by rw [q_lt (by omega) (by omega)]; omega), sb, m_isRight_y hm.2.1 (by omega) c, b2_some, if_neg (e10 ▸ not_false), jn_X5_does_92, l_10, if_neg (by rw [q_lt (by omega) (by omega)]; omega), sb, q_ck hj (by omega), q_cl (by omega)]; rfl
    · have cc : nI j < 0 ∨ nI (d 0 1) ≤ nI j := .inr (by rw [q_le (by omega) (by omega)]; omega)
      refine .inl ⟨?_, ?_⟩
      · rw [f_X1_takeAct, l_20, if_pos (by rw [q_lt (by omega) (by omega)]; omega), l_10, if_neg (by rw [q_lt (by omega) (by omega)]; omega), sb, c_hasRight_n hb.2.1 cc, b2_some, if_pos (e00 ▸ trivial)]; rfl
      · rw [f_X5_does, l_20, if_pos (by rw [q_lt (by omega) (by omega)]; omega), l_10, if_neg (by rw [q_lt (by omega) (by omega)]; omega), sb, m_isRight_n hm.2.1 cc, b2_some, if_pos (e00 ▸ trivial)]; rfl
theorem day_go {k i n : Nat} {V : Nat → Int32} (hk : k < 4) (hi : i + 2 * n ≤ 60) (hok : ∀ s, s < n → okA (V (i + 2 * s)) (V (i + 2 * s + 1))) : ∀ (m t f1 f2 : Nat) (d : BD) (μ ν : Mem), t + m = n → m < f1 → m < f2 → WFd d → BKc 8 μ d → BKm ν d → (∀ j, j < 60 → μ (36 + 2 * k) j = V j) → (∀ j, j < 60 → ν 46 (60 * k + j) = V j) → ∃ d' μ' ν', WFd d' ∧ BKc 8 μ' d' ∧ BKm ν' d' ∧ d' 0 0 = d 0 0 ∧ d' 0 1 = d 0 1 ∧ (∀ c, c < 8 ∨ 13 < c → μ' c = μ c) ∧ (∀ c, c ≠ 43 → c ≠ 48 → c ≠ 50 → ν' c = ν c) ∧ (∀ i, i < 7 ∨ 9 < i → ν' 43 i = ν 43 i) ∧ ((lp_X4_supposeDay_14 (35 + 2 * k) (nI i) (nI n) f1 (nI t) μ = some (.inl μ') ∧ lp_X5_goDay_2 (nI (60 * k + i)) (nI n) f2 (nI t) ν = some (.inl ν')) ∨ ∃ s, s < n ∧ lp_X4_supposeDay_14 (35 + 2 * k) (nI i) (nI n) f1 (nI t) μ = some (.inr (nI s, μ')) ∧ lp_X5_goDay_2 (nI (60 * k + i)) (nI n) f2 (nI t) ν = some (.inr (nI s, ν'))) := by
  intro m
  induction m with
  | zero =>
    intro t f1 f2 d μ ν ht h1 h2 w hb hm e1 e2
    obtain ⟨f1, rfl⟩ : ∃ m, f1 = m + 1 := ⟨f1 - 1, by omega⟩
    obtain ⟨f2, rfl⟩ : ∃ m, f2 = m + 1 := ⟨f2 - 1, by omega⟩
    have : t = n := by omega
    subst this
    exact ⟨d, μ, ν, w, hb, hm, rfl, rfl, fun _ _ => rfl, fun _ _ _ _ => rfl, fun _ _ => rfl, .inl ⟨by rw [lp_X4_supposeDay_14, if_pos (Int32.le_refl _)], by rw [lp_X5_goDay_2, if_pos (Int32.le_refl _)]⟩⟩
  | succ m ih =>
    intro t f1 f2 d μ ν ht h1 h2 w hb hm e1 e2
    obtain ⟨f1, rfl⟩ : ∃ m, f1 = m + 1 := ⟨f1 - 1, by omega⟩
    obtain ⟨f2, rfl⟩ : ∃ m, f2 = m + 1 := ⟨f2 - 1, by omega⟩
    have ea := e2 (i + 2 * t) (by omega)
    have eb := e2 (i + 2 * t + 1) (by omega)
    rw [← Nat.add_assoc] at ea
    rw [show 60 * k + (i + 2 * t + 1) = 60 * k + i + 2 * t + 1 by omega] at eb
    have A : lp_X4_supposeDay_14 (35 + 2 * k) (nI i) (nI n) (f1 + 1) (nI t) μ = b2 (f_X1_takeAct 8 (V (i + 2 * t)) (V (i + 2 * t + 1)) μ) fun x3 μ2 => if x3 = 0 then some (.inr (nI t, μ2)) else lp_X4_supposeDay_14 (35 + 2 * k) (nI i) (nI n) f1 (nI (t + 1)) μ2 := by
      rw [lp_X4_supposeDay_14, if_neg (show ¬ nI n ≤ nI t by rw [q_le (by omega) (by omega)]; omega)]
      simp (disch := omega) only [l_1, l_2, q_mul, q_add, q_ck, q_cl, show 35 + 2 * k + 1 = 36 + 2 * k by omega, e1, lt_eq]
    have M : lp_X5_goDay_2 (nI (60 * k + i)) (nI n) (f2 + 1) (nI t) ν = b2 (f_X5_does (V (i + 2 * t)) (V (i + 2 * t + 1)) ν) fun x2 μ1 => if x2 = 0 then some (.inr (nI t, μ1)) else lp_X5_goDay_2 (nI (60 * k + i)) (nI n) f2 (nI (t + 1)) μ1 := by
      rw [lp_X5_goDay_2, if_neg (show ¬ nI n ≤ nI t by rw [q_le (by omega) (by omega)]; omega)]
      simp (disch := omega) only [l_1, l_2, q_mul, q_add, q_ck, q_cl, ea, eb, lt_eq]
    rw [A, M]
    rcases act_s w hb hm (hok t (by omega)) with ⟨a1, a2⟩ | ⟨d', μ', ν', a1, a2, a3, a4, a5, a6, a7, a8, a9, a10⟩
    · rw [a1, a2, b2_some, b2_some, if_pos (e00 ▸ trivial), if_pos (e00 ▸ trivial)]
      exact ⟨d, μ, ν, w, hb, hm, rfl, rfl, fun _ _ => rfl, fun _ _ _ _ => rfl, fun _ _ => rfl, .inr ⟨t, by omega, rfl, rfl⟩⟩
    · rw [a1, a2, b2_some, b2_some, if_neg (e10 ▸ not_false), if_neg (e10 ▸ not_false)]
      obtain ⟨d2, μ2, ν2, g1, g2, g3, g4, g5, g6, g7, g8, g9⟩ := ih (t + 1) f1 f2 d' μ' ν' (by omega) (by omega) (by omega) a3 a4 a5 (fun j hj => by rw [a8 _ (by omega)]; exact e1 j hj) (fun j hj => by rw [a9 46 (by omega) (by omega) (by omega)]; exact e2 j hj)
      exact ⟨d2, μ2, ν2, g1, g2, g3, g4.trans a6, g5.trans a7, fun c hc => by rw [g6 c hc, a8 c hc], fun c c1 c2 c3 => by rw [g7 c c1 c2 c3, a9 c c1 c2 c3], fun j hj => by rw [g8 j hj, a10 j hj], g9⟩
