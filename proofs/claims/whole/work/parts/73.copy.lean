theorem c_fill {q : Nat} {v : Int32} : ∀ (m j f : Nat) (μ : Mem), j + m = 60 → m < f → ∃ μ', lp_J7_fill_53178_5 q v (nI 60) f (nI j) μ = some μ' ∧ (∀ c, c ≠ q → μ' c = μ c) ∧ ∀ i, i < 60 → μ' q i = if j ≤ i then v else μ q i := by
  intro m
  induction m with
  | zero =>
    intro j f μ hj hf
    obtain ⟨f, rfl⟩ : ∃ m, f = m + 1 := ⟨f - 1, by omega⟩
    have : j = 60 := by omega
    subst this
    refine ⟨μ, by rw [lp_J7_fill_53178_5, if_pos (Int32.le_refl _)], fun _ _ => rfl, fun i hi => by rw [if_neg (by omega)]⟩
  | succ m ih =>
    intro j f μ hj hf
    obtain ⟨f, rfl⟩ : ∃ m, f = m + 1 := ⟨f - 1, by omega⟩
    obtain ⟨μ', e, f1, f2⟩ := ih (j + 1) f (up μ q j v) (by omega) (by omega)
    refine ⟨μ', ?_, fun c hc => by rw [f1 c hc, up_ne hc], fun i hi => ?_⟩
    · rw [lp_J7_fill_53178_5, if_neg (show ¬ nI 60 ≤ nI j by rw [q_le (by omega) (by omega)]; omega), q_ck (by omega) (by omega), lt_eq, lt_eq, q_cl (by omega), l_1, q_add, e]
    · rw [f2 i hi]
      by_cases c : i = j
      · subst c; rw [if_neg (by omega), if_pos (by omega), up_at]
      · rw [up_ot c]
        by_cases c2 : j ≤ i
        · rw [if_pos c2, if_pos (by omega)]
        · rw [if_neg c2, if_neg (by omega)]
theorem m_fill {k : Nat} (hk : k < 4) : ∀ (m j f : Nat) (μ : Mem), j + m = 60 → m < f → ∃ μ', lp_X5_sheet_57 (nI k) f (nI j) μ = some μ' ∧ (∀ c, c ≠ 46 → μ' c = μ c) ∧ (∀ i, i < 60 → μ' 46 (60 * k + i) = if j ≤ i then 0 else μ 46 (60 * k + i)) ∧ ∀ i, i < 60 * k ∨ 60 * k + 60 ≤ i → μ' 46 i = μ 46 i := by
  intro m
  induction m with
  | zero =>
    intro j f μ hj hf
    obtain ⟨f, rfl⟩ : ∃ m, f = m + 1 := ⟨f - 1, by omega⟩
    have : j = 60 := by omega
    subst this
    refine ⟨μ, by rw [lp_X5_sheet_57, l_60, if_pos (Int32.le_refl _)], fun _ _ => rfl, fun i hi => by rw [if_neg (by omega)], fun _ _ => rfl⟩
  | succ m ih =>
    intro j f μ hj hf
    obtain ⟨f, rfl⟩ : ∃ m, f = m + 1 := ⟨f - 1, by omega⟩
    obtain ⟨μ', e, f1, f2, f3⟩ := ih (j + 1) f (up μ 46 (60 * k + j) 0) (by omega) (by omega)
    refine ⟨μ', ?_, fun c hc => by rw [f1 c hc, up_ne hc], fun i hi => ?_, fun i hi => by rw [f3 i hi, up_ot (by omega)]⟩
    · rw [lp_X5_sheet_57, l_60, if_neg (show ¬ nI 60 ≤ nI j by rw [q_le (by omega) (by omega)]; omega), q_mul, q_add, q_ck (by omega) (by omega), lt_eq, lt_eq, q_cl (by omega), l_1, q_add, e]
    · rw [f2 i hi]
      by_cases c : i = j
      · subst c; rw [if_neg (by omega), if_pos (by omega), up_at]
      · rw [up_ot (by omega)]
        by_cases c2 : j ≤ i
        · rw [if_pos c2, if_pos (by omega)]
        · rw [if_neg c2, if_neg (by omega)]
theorem t_sheet (x y z : Int32) (μ : Mem) (h : Inv μ) : ∃ (r : Int32) (μ1 μ2 : Mem), f_X4_sheet x y z μ = some (r, μ1) ∧ f_X5_sheet x y z μ1 = some (r, μ2) ∧ Inv μ2 := by
  obtain ⟨⟨d, hI⟩, ht, hf⟩ := h
  rcases ix7 (x := x) (n := 4) (by omega) with hx | ⟨k, hk, rfl⟩
  · exact ⟨-1, up μ 0 11 0, _, by simp only [f_X4_sheet, lt_eq, sh4_n hx, b2_some, e00, if_true], by simp only [f_X5_sheet, lt_eq, sh5_n hx, b2_some, e00, if_true], Inv_f hI ht 0⟩
  · rcases ix7 (x := y) (n := 3) (by omega) with hz | ⟨l, hl, rfl⟩
    · exact ⟨-2, up μ 0 11 0, _, by simp only [f_X4_sheet, lt_eq, sh4_y hk, ln4_n hz, b2_some, e10, if_false, e00, if_true], by simp only [f_X5_sheet, lt_eq, sh5_y hk, ln5_n hz, b2_some, e10, if_false, e00, if_true], Inv_f hI ht 0⟩
    · rcases pk_ix z (n := 61) (by omega) with hn | hn | ⟨n, hn, rfl⟩
      · have c1 : z ≤ 60 := by
          rw [fa_le]; rw [fa_lt, i0] at hn
          have : (60 : Int32).toInt = 60 := by decide
          omega
        have c2 : ¬ 0 ≤ z := Int32.not_le.mpr hn
        refine ⟨-10 - 4, up (up μ 0 11 0) 0 11 4, up (up (up (up μ 0 11 0) 0 11 4) 43 0 0) 43 0 4, ?_, ?_, Inv_ff hI ht 0 4⟩
        · simp only [f_X4_sheet, lt_eq, sh4_y hk, ln4_y hl, b2_some, e10, if_false, c1, if_true, c2, f_X4_failed]
        · simp only [f_X5_sheet, lt_eq, sh5_y hk, ln5_y hl, b2_some, e10, if_false, c1, if_true, c2, f_X5_fails]
      · have c1 : ¬ z ≤ 60 := Int32.not_le.mpr (by rw [l_60, le_succ (by omega)]; exact hn)
        exact ⟨-2, up μ 0 11 0, _, by simp only [f_X4_sheet, lt_eq, sh4_y hk, ln4_y hl, b2_some, e10, if_false, c1], by simp only [f_X5_sheet, lt_eq, sh5_y hk, ln5_y hl, b2_some, e10, if_false, c1], Inv_f hI ht 0⟩
      · have c1 : nI n ≤ 60 := by rw [l_60, q_le (by omega) (by omega)]; omega
        have c2 : 0 ≤ nI n := by rw [l_0, q_le (by omega) (by omega)]; omega
        obtain ⟨μa, a0, a1, a2⟩ := c_fill (q := 36 + 2 * k) (v := 0) 60 0 FU (up (up (up (up μ 0 11 0) (35 + 2 * k) 1 1) (35 + 2 * k) 2 (nI l)) (35 + 2 * k) 3 (nI n)) (by omega) (by unfold FU; omega)
        obtain ⟨μb, b0, b1', b2', b3'⟩ := m_fill hk 60 0 FU (up (up (up μa 43 0 0) 44 k (nI l)) 45 k (nI n)) (by omega) (by unfold FU; omega)
        have ea : ∀ c, c ≠ 0 → c ≠ 35 + 2 * k → c ≠ 36 + 2 * k → μa c = μ c := fun c h0 h1 h2 => by rw [a1 c h2, up_ne h1, up_ne h1, up_ne h1, up_ne h0]
        have ea0 : ∀ i, i ≠ 11 → μa 0 i = μ 0 i := fun i hi => by rw [a1 0 (by omega), up_ne (by omega), up_ne (by omega), up_ne (by omega), up_ot hi]
        have ea1 : μa 0 11 = 0 := by rw [a1 0 (by omega), up_ne (by omega), up_ne (by omega), up_ne (by omega), up_at]
        have eb : ∀ c, c ≠ 43 → c ≠ 44 → c ≠ 45 → c ≠ 46 → μb c = μa c := fun c h0 h1 h2 h3 => by rw [b1' c h3, up_ne h2, up_ne h1, up_ne h0]
        have eb3 : ∀ i, i ≠ 0 → μb 43 i = μ 43 i := fun i hi => by rw [b1' 43 (by omega), up_ne (by omega), up_ne (by omega), up_ot hi, ea 43 (by omega) (by omega) (by omega)]
        have eb4 : μb 43 0 = 0 := by rw [b1' 43 (by omega), up_ne (by omega), up_ne (by omega), up_at]
        have e44 : μb 44 k = nI l := by rw [b1' 44 (by omega), up_ne (by omega), up_at]
        have e45 : μb 45 k = nI n := by rw [b1' 45 (by omega), up_at]
        have s1 : μb (35 + 2 * k) 1 = nI 1 := by rw [eb _ (by omega) (by omega) (by omega) (by omega), a1 _ (by omega), up_ot (by omega), up_ot (by omega), up_at]; rfl
        have s2 : μb (35 + 2 * k) 2 = nI l := by rw [eb _ (by omega) (by omega) (by omega) (by omega), a1 _ (by omega), up_ot (by omega), up_at]
        have s3 : μb (35 + 2 * k) 3 = nI n := by rw [eb _ (by omega) (by omega) (by omega) (by omega), a1 _ (by omega), up_at]
        refine ⟨1, μa, μb, ?_, ?_, ⟨d, Iv_sh hI (RS_o hk hI.2.2.2.2.1 ⟨.inr ⟨s1, l, hl, s2, e44⟩, ⟨n, by omega, s3, e45⟩, fun j hj => ?_⟩ (fun c c1 c2 c3 c4 => ?_) (fun j hj => ⟨?_, ?_⟩) (fun j hj => ?_)) (fun c c1 c2 c3 => ?_) ⟨?_, ?_⟩ (fun i hi => ?_)⟩, ?_, ?_⟩
        · simp (disch := omega) only [f_X4_sheet, lt_eq, sh4_y hk, ln4_y hl, b2_some, e10, if_false, c1, if_true, c2, q_ck, shc_n hk, f_X2_begin, f_J7_fill_53178, l_60, show 35 + 2 * k + 1 = 36 + 2 * k by omega]
          have a0' : lp_J7_fill_53178_5 (36 + 2 * k) 0 (nI 60) FU 0 (up (up (up (up μ 0 11 0) (35 + 2 * k) 1 1) (35 + 2 * k) 2 (nI l)) (35 + 2 * k) 3 (nI n)) = some μa := a0
          rw [a0', if_pos (by rw [← l_60]; exact c1)]; rfl
        · have b0' : lp_X5_sheet_57 (nI k) FU 0 (up (up (up μa 43 0 0) 44 k (nI l)) 45 k (nI n)) = some μb := b0
          simp (disch := omega) only [f_X5_sheet, lt_eq, sh5_y hk, ln5_y hl, b2_some, e10, if_false, c1, if_true, c2, q_ck, q_cl, b0', b1_some]
        · rw [b2' j hj, if_pos (by omega), eb _ (by omega) (by omega) (by omega) (by omega), a2 j hj, if_pos (by omega)]
        · rw [eb c (by omega) (by omega) (by omega) (by omega), ea c (by omega) c3 c4]
        · rw [b1' 44 (by omega), up_ne (by omega), up_ot hj, up_ne (by omega), ea 44 (by omega) (by omega) (by omega)]
        · rw [b1' 45 (by omega), up_ot hj, up_ne (by omega), up_ne (by omega), ea 45 (by omega) (by omega) (by omega)]
        · rw [b3' j hj, up_ne (by omega), up_ne (by omega), up_ne (by omega), ea 46 (by omega) (by omega) (by omega)]
        · rw [eb c (by omega) (by omega) (by omega) (by omega), ea c (by omega) (by omega) (by omega)]
        · rw [eb 0 (by omega) (by omega) (by omega) (by omega), ea0 _ (by omega)]
        · rw [eb 0 (by omega) (by omega) (by omega) (by omega), ea0 _ (by omega)]
        · exact eb3 i (by omega)
        · rw [eb 0 (by omega) (by omega) (by omega) (by omega), ea0 _ (by omega), eb3 _ (by omega)]; exact ht
        · rw [eb 0 (by omega) (by omega) (by omega) (by omega), ea1, eb4]
theorem m_cp {k i k' j n : Nat} {back : Nat} (hk : k < 4) (hk' : k' < 4) (hi : i + n ≤ 60) (hj : j + n ≤ 60) (hb : back < 2) (hd : k ≠ k' ∨ (back = 0 ∧ j ≤ i) ∨ (back = 1 ∧ i ≤ j)) : ∀ (m t f : Nat) (μ ν : Mem), t + m = n → m < f → (∀ c, c ≠ 46 → ν c = μ c) → (∀ p, ν 46 p = if (60 * k' + j ≤ p ∧ p < 60 * k' + j + n) ∧ (if back = 0 then p < 60 * k' + j + t else 60 * k' + j + n ≤ p + t) then μ 46 (60 * k + i + (p - (60 * k' + j))) else μ 46 p) →
    ∃ ν', lp_X5_copy_166 (nI k) (nI i) (nI k') (nI j) (nI n) (nI back) f (nI t) ν = some ν' ∧ (∀ c, c ≠ 46 → ν' c = μ c) ∧ ∀ p, ν' 46 p = if 60 * k' + j ≤ p ∧ p < 60 * k' + j + n then μ 46 (60 * k + i + (p - (60 * k' + j))) else μ 46 p := by
  intro m
  induction m with
  | zero =>
    intro t f μ ν ht hf h1 h2
    obtain ⟨f, rfl⟩ : ∃ m, f = m + 1 := ⟨f - 1, by omega⟩
    have : t = n := by omega
    subst this
    refine ⟨ν, by rw [lp_X5_copy_166, if_pos (Int32.le_refl _)], h1, fun p => ?_⟩
    rw [h2]
    by_cases c : 60 * k' + j ≤ p ∧ p < 60 * k' + j + t
    · rw [if_pos c, if_pos ⟨c, by split <;> omega⟩]
    · rw [if_neg c, if_neg (fun z => c z.1)]
  | succ m ih =>
    intro t f μ ν ht hf h1 h2
    obtain ⟨f, rfl⟩ : ∃ m, f = m + 1 := ⟨f - 1, by omega⟩
    rcases (show back = 0 ∨ back = 1 by omega) with rfl | rfl
    · have src : ν 46 (60 * k + i + t) = μ 46 (60 * k + i + t) := by rw [h2, if_neg]; rw [if_pos rfl]; omega
      obtain ⟨ν', e, f1, f2⟩ := ih (t + 1) f μ (up ν 46 (60 * k' + j + t) (ν 46 (60 * k + i + t))) (by omega) (by omega) (fun c hc => by rw [up_ne hc, h1 c hc]) (fun p => by
        by_cases c : p = 60 * k' + j + t
        · subst c
          rw [up_at, src, if_pos ⟨by omega, by rw [if_pos rfl]; omega⟩, show 60 * k' + j + t - (60 * k' + j) = t by omega]
        · rw [up_ot c, h2]
          by_cases c2 : (60 * k' + j ≤ p ∧ p < 60 * k' + j + n) ∧ p < 60 * k' + j + t
          · rw [if_pos ⟨c2.1, by rw [if_pos rfl]; omega⟩, if_pos ⟨c2.1, by rw [if_pos rfl]; omega⟩]
          · rw [if_neg (by rw [if_pos rfl]; exact c2), if_neg (by rw [if_pos rfl]; omega)])
      refine ⟨ν', ?_, f1, f2⟩
      rw [lp_X5_copy_166, if_neg (show ¬ nI n ≤ nI t by rw [q_le (by omega) (by omega)]; omega), if_pos (e00 ▸ trivial)]
      simp (disch := omega) only [jn_X5_copy_190, l_60, l_1, q_mul, q_add, q_ck, q_cl, lt_eq]
      exact e
    · have src : ν 46 (60 * k + i + (n - 1 - t)) = μ 46 (60 * k + i + (n - 1 - t)) := by rw [h2, if_neg]; rw [if_neg (by omega)]; omega
      obtain ⟨ν', e, f1, f2⟩ := ih (t + 1) f μ (up ν 46 (60 * k' + j + (n - 1 - t)) (ν 46 (60 * k + i + (n - 1 - t)))) (by omega) (by omega) (fun c hc => by rw [up_ne hc, h1 c hc]) (fun p => by
        by_cases c : p = 60 * k' + j + (n - 1 - t)
        · subst c
          rw [up_at, src, if_pos ⟨by omega, by rw [if_neg (by omega)]; omega⟩, show 60 * k' + j + (n - 1 - t) - (60 * k' + j) = n - 1 - t by omega]
        · rw [up_ot c, h2]
          by_cases c2 : (60 * k' + j ≤ p ∧ p < 60 * k' + j + n) ∧ 60 * k' + j + n ≤ p + t
          · rw [if_pos ⟨c2.1, by rw [if_neg (by omega)]; omega⟩, if_pos ⟨c2.1, by rw [if_neg (by omega)]; omega⟩]
          · rw [if_neg (by rw [if_neg (by omega)]; exact c2), if_neg (by rw [if_neg (by omega)]; omega)])
      refine ⟨ν', ?_, f1, f2⟩
      rw [lp_X5_copy_166, if_neg (show ¬ nI n ≤ nI t by rw [q_le (by omega) (by omega)]; omega), if_neg (e10 ▸ not_false)]
      simp (disch := omega) only [jn_X5_copy_190, l_60, l_1, q_mul, q_sub, q_add, q_ck, q_cl, lt_eq]
      exact e
theorem m_ct {n n' : Nat} {k k' : Nat} {x y z : Int32} {μ : Mem} (hk : k < 4) (hk' : k' < 4) (hn : n ≤ 60) (hn' : n' ≤ 60) (e1 : μ 45 k = nI n) (e2 : μ 45 k' = nI n') : (HC n x z → HC n' y z → jn_X5_copy_110 (nI k) x (nI k') y z (nI 1) μ = if y ≤ x then jn_X5_copy_161 (nI k) x (nI k') y z 0 μ else jn_X5_copy_161 (nI k) x (nI k') y z 1 μ) ∧ (0 ≤ x.toInt → 0 ≤ y.toInt → 0 ≤ z.toInt → x.toInt ≤ n → y.toInt ≤ n' → ¬ (HC n x z ∧ HC n' y z) → jn_X5_copy_110 (nI k) x (nI k') y z (nI 1) μ = some (-10 - 3, up μ 43 0 3)) := by
  have g := nI_toInt (show n < 2147483648 by omega)
  have g' := nI_toInt (show n' < 2147483648 by omega)
  unfold HC
  constructor
  · intro ⟨a1, a2, a3⟩ ⟨b1, b2, b3⟩
    have s := fb_subI (x := nI n) (y := x) (by omega) (by omega)
    have s' := fb_subI (x := nI n') (y := y) (by omega) (by omega)
    rw [g] at s
    rw [g'] at s'
    rw [jn_X5_copy_110, if_neg (e10 ▸ not_false), q_ck hk (by omega), q_cl (by omega), e1, if_neg (by rw [fa_lt, s]; omega), q_ck hk' (by omega), q_cl (by omega), e2, if_pos (by rw [fa_le, s']; omega)]
  · intro a1 a2 a3 a4 a5 a6
    have s := fb_subI (x := nI n) (y := x) (by omega) (by omega)
    have s' := fb_subI (x := nI n') (y := y) (by omega) (by omega)
    rw [g] at s
    rw [g'] at s'
    rw [jn_X5_copy_110, if_neg (e10 ▸ not_false), q_ck hk (by omega), q_cl (by omega), e1]
    by_cases c : nI n - x < z
    · rw [if_pos c]; rfl
    · rw [if_neg c, q_ck hk' (by omega), q_cl (by omega), e2]
      rw [fa_lt, s] at c
      rw [if_neg (by rw [fa_le, s']; omega)]; rfl
theorem m_cf {k k' : Nat} {n n' l : Nat} {x y z : Int32} {μ : Mem} (hk : k < 4) (hk' : k' < 4) (hn : n ≤ 60) (hn' : n' ≤ 60) (hl : l < 3) (e1 : μ 45 k = nI n) (e2 : μ 45 k' = nI n') (e3 : μ 44 k = nI l) (e4 : μ 44 k' = nI l) : (HC n x z → HC n' y z → f_X5_copy (nI k) x (nI k') y z μ = if y ≤ x then jn_X5_copy_161 (nI k) x (nI k') y z 0 (up μ 43 0 0) else jn_X5_copy_161 (nI k) x (nI k') y z 1 (up μ 43 0 0)) ∧ (¬ (HC n x z ∧ HC n' y z) → f_X5_copy (nI k) x (nI k') y z μ = some (-10 - 3, up (up μ 43 0 0) 43 0 3)) := by
  have g := nI_toInt (show n < 2147483648 by omega)
  have g' := nI_toInt (show n' < 2147483648 by omega)
  have u1 : up μ 43 0 0 45 k = nI n := by rw [up_ne (by omega)]; exact e1
  have u2 : up μ 43 0 0 45 k' = nI n' := by rw [up_ne (by omega)]; exact e2
  have u3 : up μ 43 0 0 44 k = nI l := by rw [up_ne (by omega)]; exact e3
  have u4 : up μ 43 0 0 44 k' = nI l := by rw [up_ne (by omega)]; exact e4
  simp only [f_X5_copy, lt_eq]
  generalize up μ 43 0 0 = ν at u1 u2 u3 u4 ⊢
  have T := m_ct (x := x) (y := y) (z := z) hk hk' hn hn' u1 u2
  rw [sh5_y hk, b2_some, if_neg (e10 ▸ not_false), sh5_y hk', b2_some, if_neg (e10 ▸ not_false), q_ck hk (by omega), q_cl (by omega), u3, if_neg (by rw [q_n9 (by omega)]; exact not_false), q_ck hk' (by omega), q_cl (by omega), u4, if_neg (by rw [q_n9 (by omega)]; exact not_false), q_ck hk (by omega), q_ck hk' (by omega), if_pos rfl, q_ck hk (by omega), q_ck hk' (by omega), u1, u2]
  have bad : jn_X5_copy_109 (nI k) x (nI k') y z ν = some (-10 - 3, up ν 43 0 3) := rfl
  rw [bad]
  constructor
  · intro h1 h2
    have h1' := h1
    have h2' := h2
    obtain ⟨a1, a2, a3⟩ := h1
    obtain ⟨b1, b2, b3⟩ := h2
    rw [if_neg (by rw [fa_lt, i0]; omega), if_neg (by rw [fa_lt, i0]; omega), if_neg (by rw [fa_lt, i0]; omega), if_neg (by rw [fa_lt, g]; omega), if_neg (by rw [fa_lt, g']; omega)]
    exact T.1 h1' h2'
  · intro hc
    by_cases c1 : x < 0
    · rw [if_pos c1]
    · rw [if_neg c1]
      by_cases c2 : y < 0
      · rw [if_pos c2]
      · rw [if_neg c2]
        by_cases c3 : z < 0
        · rw [if_pos c3]
        · rw [if_neg c3]
          by_cases c4 : nI n < x
          · rw [if_pos c4]
          · rw [if_neg c4]
            by_cases c5 : nI n' < y
            · rw [if_pos c5]
            · rw [if_neg c5]
              rw [fa_lt, i0] at c1 c2 c3
              rw [fa_lt, g] at c4
              rw [fa_lt, g'] at c5
              rw [l_1, T.2 (by omega) (by omega) (by omega) (by omega) (by omega) hc]
theorem t_copy (x1 x2 x3 x4 x5 : Int32) (μ : Mem) (h : Inv μ) : ∃ (r : Int32) (μ1 μ2 : Mem), f_X4_copy x1 x2 x3 x4 x5 μ = some (r, μ1) ∧ f_X5_copy x1 x2 x3 x4 x5 μ1 = some (r, μ2) ∧ Inv μ2 := by
  obtain ⟨⟨d, hI⟩, ht, hf⟩ := h
  rcases ix7 (x := x1) (n := 4) (by omega) with hx | ⟨k, hk, rfl⟩
  · exact ⟨-1, up μ 0 11 0, _, by simp only [f_X4_copy, lt_eq, sh4_n hx, b2_some, e00, if_true], by simp only [f_X5_copy, lt_eq, sh5_n hx, b2_some, e00, if_true], Inv_f hI ht 0⟩
  · rcases ix7 (x := x3) (n := 4) (by omega) with hz | ⟨k', hk', rfl⟩
    · exact ⟨-1, up μ 0 11 0, _, by simp only [f_X4_copy, lt_eq, sh4_y hk, sh4_n hz, b2_some, e10, if_false, e00, if_true], by simp only [f_X5_copy, lt_eq, sh5_y hk, sh5_n hz, b2_some, e10, if_false, e00, if_true], Inv_f hI ht 0⟩
    · have hJ : Iv (up μ 0 11 0) d := Iv_u0 hI (by omega)
      have R := hJ.2.2.2.2.1 k hk
      have R' := hJ.2.2.2.2.1 k' hk'
      obtain ⟨n, n1, n2, n3⟩ := R.2.1
      obtain ⟨n', n1', n2', n3'⟩ := R'.2.1
      rcases R.1 with ⟨a1, a2⟩ | ⟨a1, l, a2, a3, a4⟩
      · refine ⟨-10 - 1, up (up μ 0 11 0) 0 11 1, up (up (up (up μ 0 11 0) 0 11 1) 43 0 0) 43 0 1, ?_, ?_, Inv_ff hI ht 0 1⟩
        · simp only [f_X4_copy, lt_eq]
          generalize up μ 0 11 0 = ν at a1 ⊢
          simp (disch := omega) only [sh4_y hk, sh4_y hk', b2_some, e10, if_false, q_ck, lt_eq, shc_n hk, shc_n hk', a1, e00, if_true, f_X4_failed]
        · have u : up (up (up μ 0 11 0) 0 11 1) 43 0 0 44 k = -9 := by rw [up_ne (by omega), up_ne (by omega)]; exact a2
          simp only [f_X5_copy, lt_eq]
          generalize up (up (up μ 0 11 0) 0 11 1) 43 0 0 = ν at u ⊢
          rw [sh5_y hk, b2_some, if_neg (e10 ▸ not_false), sh5_y hk', b2_some, if_neg (e10 ▸ not_false), q_ck hk (by omega), q_cl (by omega), u, if_pos rfl]; rfl
      · rcases R'.1 with ⟨a1', a2'⟩ | ⟨a1', l', a2', a3', a4'⟩
        · refine ⟨-10 - 1, up (up μ 0 11 0) 0 11 1, up (up (up (up μ 0 11 0) 0 11 1) 43 0 0) 43 0 1, ?_, ?_, Inv_ff hI ht 0 1⟩
          · simp only [f_X4_copy, lt_eq]
            generalize up μ 0 11 0 = ν at a1 a1' ⊢
            simp (disch := omega) only [sh4_y hk, sh4_y hk', b2_some, e10, if_false, q_ck, lt_eq, shc_n hk, shc_n hk', a1, a1', e00, if_true, f_X4_failed]
          · have u : up (up (up μ 0 11 0) 0 11 1) 43 0 0 44 k = nI l := by rw [up_ne (by omega), up_ne (by omega)]; exact a4
            have u' : up (up (up μ 0 11 0) 0 11 1) 43 0 0 44 k' = -9 := by rw [up_ne (by omega), up_ne (by omega)]; exact a2'
            simp only [f_X5_copy, lt_eq]
            generalize up (up (up μ 0 11 0) 0 11 1) 43 0 0 = ν at u u' ⊢
            rw [sh5_y hk, b2_some, if_neg (e10 ▸ not_false), sh5_y hk', b2_some, if_neg (e10 ▸ not_false), q_ck hk (by omega), q_cl (by omega), u, if_neg (by rw [q_n9 (by omega)]; exact not_false), q_ck hk' (by omega), q_cl (by omega), u', if_pos rfl]; rfl
        · by_cases cl : l = l'
          · subst cl
            by_cases hc : HC n x2 x5 ∧ HC n' x4 x5
            · obtain ⟨i, m, q1, q2, q3⟩ := HC_nat n1 hc.1
              obtain ⟨j, m', q1', q2', q3'⟩ := HC_nat n1' hc.2
              have mm : m = m' := by
                rw [q2, q_eq (by omega) (by omega)] at q2'; exact q2'
              subst mm
              subst q1 q1' q2
              let μc := cpm (up μ 0 11 0) (36 + 2 * k) i (36 + 2 * k') j m
              have ec : ∀ c, c ≠ 36 + 2 * k' → μc c = up μ 0 11 0 c := fun c hc => by funext b; exact if_neg hc
              have ec' : ∀ p, μc (36 + 2 * k') p = if j ≤ p ∧ p < j + m then up μ 0 11 0 (36 + 2 * k) (i + (p - j)) else up μ 0 11 0 (36 + 2 * k') p := fun p => if_pos rfl
              have M : ∃ ν', (if nI j ≤ nI i then jn_X5_copy_161 (nI k) (nI i) (nI k') (nI j) (nI m) 0 (up μc 43 0 0) else jn_X5_copy_161 (nI k) (nI i) (nI k') (nI j) (nI m) 1 (up μc 43 0 0)) = some (nI m, ν') ∧ (∀ c, c ≠ 46 → ν' c = up μc 43 0 0 c) ∧ ∀ p, ν' 46 p = if 60 * k' + j ≤ p ∧ p < 60 * k' + j + m then up μc 43 0 0 46 (60 * k + i + (p - (60 * k' + j))) else up μc 43 0 0 46 p := by
                by_cases cb : j ≤ i
                · obtain ⟨ν', u1, u2, u3⟩ := m_cp (k := k) (i := i) (k' := k') (j := j) (n := m) (back := 0) hk hk' (by omega) (by omega) (by omega) (.inr (.inl ⟨rfl, cb⟩)) m 0 FU (up μc 43 0 0) (up μc 43 0 0) (by omega) (by unfold FU; omega) (fun _ _ => rfl) (fun p => by rw [if_neg]; rw [if_pos rfl]; omega)
                  refine ⟨ν', ?_, u2, u3⟩
                  rw [if_pos (by rw [q_le (by omega) (by omega)]; exact cb)]
                  show b1 (lp_X5_copy_166 (nI k) (nI i) (nI k') (nI j) (nI m) (nI 0) FU (nI 0) (up μc 43 0 0)) _ = _
                  rw [u1]; rfl
                · obtain ⟨ν', u1, u2, u3⟩ := m_cp (k := k) (i := i) (k' := k') (j := j) (n := m) (back := 1) hk hk' (by omega) (by omega) (by omega) (.inr (.inr ⟨rfl, by omega⟩)) m 0 FU (up μc 43 0 0) (up μc 43 0 0) (by omega) (by unfold FU; omega) (fun _ _ => rfl) (fun p => by rw [if_neg]; rw [if_neg (by omega)]; omega)
                  refine ⟨ν', ?_, u2, u3⟩
                  rw [if_neg (by rw [q_le (by omega) (by omega)]; exact cb)]
                  show b1 (lp_X5_copy_166 (nI k) (nI i) (nI k') (nI j) (nI m) (nI 1) FU (nI 0) (up μc 43 0 0)) _ = _
                  rw [u1]; rfl
              obtain ⟨ν', M1, M2, M3⟩ := M
              have en : ∀ c, c ≠ 43 → c ≠ 46 → c ≠ 36 + 2 * k' → ν' c = up μ 0 11 0 c := fun c c1 c2 c3 => by rw [M2 c c2, up_ne c1, ec c c3]
              have en3 : ∀ b, b ≠ 0 → ν' 43 b = up μ 0 11 0 43 b := fun b hb => by rw [M2 43 (by omega), up_ot hb, ec 43 (by omega)]
              have e6 : ∀ p, up μc 43 0 0 46 p = up μ 0 11 0 46 p := fun p => by rw [up_ne (by omega), ec 46 (by omega)]
              refine ⟨nI m, μc, ν', ?_, ?_, ⟨d, Iv_sh hJ (RS_o hk' hJ.2.2.2.2.1 ⟨?_, ?_, fun p hp => ?_⟩ (fun c c1 c2 c3 c4 => ?_) (fun p hp => ⟨?_, ?_⟩) (fun p hp => ?_)) (fun c c1 c2 c3 => ?_) ⟨?_, ?_⟩ (fun b hb => ?_)⟩, ?_, ?_⟩
              · simp only [f_X4_copy, lt_eq]
                show _ = some (nI m, cpm (up μ 0 11 0) (36 + 2 * k) i (36 + 2 * k') j m)
                generalize up μ 0 11 0 = ν at a1 a1' a3 a3' n2 n2' ⊢
                have ckE : cpk (nI i) (nI j) (nI m) 60 60 = true := by
                  simp (disch := omega) only [cpk, q_cl]
                  exact decide_eq_true ⟨nI_pos (by omega), nI_pos (by omega), nI_pos (by omega), by omega, by omega⟩
                simp (disch := omega) only [sh4_y hk, sh4_y hk', b2_some, e10, if_false, q_ck, lt_eq, shc_n hk, shc_n hk', a1, a1', a3, a3', if_true, hc_y n2 n1 hc.1, hc_y n2' n1' hc.2, ckE, q_cl, show 35 + 2 * k + 1 = 36 + 2 * k by omega, show 35 + 2 * k' + 1 = 36 + 2 * k' by omega]
                rfl
              · rw [(m_cf (l := l) hk hk' n1 n1' a2 (by rw [ec 45 (by omega)]; exact n3) (by rw [ec 45 (by omega)]; exact n3') (by rw [ec 44 (by omega)]; exact a4) (by rw [ec 44 (by omega)]; exact a4')).1 hc.1 hc.2]
                exact M1
              · rw [en _ (by omega) (by omega) (by omega), en 44 (by omega) (by omega) (by omega)]; exact R'.1
              · rw [en _ (by omega) (by omega) (by omega), en 45 (by omega) (by omega) (by omega)]; exact R'.2.1
              · rw [M3, M2 (36 + 2 * k') (by omega), up_ne (show 36 + 2 * k' ≠ 43 by omega), ec']
                simp only [e6]
                by_cases c : j ≤ p ∧ p < j + m
                · rw [if_pos c, if_pos (by omega), show 60 * k + i + (60 * k' + p - (60 * k' + j)) = 60 * k + (i + (p - j)) by omega]
                  exact R.2.2 _ (by omega)
                · rw [if_neg c, if_neg (by omega)]
                  exact R'.2.2 _ hp
              · exact en c (by omega) (by omega) c4
              · rw [en 44 (by omega) (by omega) (by omega)]
              · rw [en 45 (by omega) (by omega) (by omega)]
              · rw [M3, if_neg (by omega), e6]
              · exact en c (by omega) (by omega) (by omega)
              · rw [en 0 (by omega) (by omega) (by omega)]
              · rw [en 0 (by omega) (by omega) (by omega)]
              · exact en3 b (by omega)
              · rw [en 0 (by omega) (by omega) (by omega), en3 _ (by omega), up_ot (by omega), up_ne (by omega)]; exact ht
              · rw [en 0 (by omega) (by omega) (by omega), M2 43 (by omega), up_at, up_at]
            · refine ⟨-10 - 3, up (up μ 0 11 0) 0 11 3, up (up (up (up μ 0 11 0) 0 11 3) 43 0 0) 43 0 3, ?_, ?_, Inv_ff hI ht 0 3⟩
              · simp only [f_X4_copy, lt_eq]
                generalize up μ 0 11 0 = ν at a1 a1' a3 a3' n2 n2' ⊢
                by_cases c1 : HC n x2 x5
                · simp (disch := omega) only [sh4_y hk, sh4_y hk', b2_some, e10, if_false, q_ck, lt_eq, shc_n hk, shc_n hk', a1, a1', a3, a3', if_true, hc_y n2 n1 c1, hc_n n2' n1' (fun z => hc ⟨c1, z⟩), e00, f_X4_failed]
                · simp (disch := omega) only [sh4_y hk, sh4_y hk', b2_some, e10, if_false, q_ck, lt_eq, shc_n hk, shc_n hk', a1, a1', a3, a3', if_true, hc_n n2 n1 c1, e00, f_X4_failed]
              · rw [(m_cf (l := l) hk hk' n1 n1' a2 (by rw [up_ne (by omega)]; exact n3) (by rw [up_ne (by omega)]; exact n3') (by rw [up_ne (by omega)]; exact a4) (by rw [up_ne (by omega)]; exact a4')).2 hc]
          · refine ⟨-10 - 2, up (up μ 0 11 0) 0 11 2, up (up (up (up μ 0 11 0) 0 11 2) 43 0 0) 43 0 2, ?_, ?_, Inv_ff hI ht 0 2⟩
            · simp only [f_X4_copy, lt_eq]
              generalize up μ 0 11 0 = ν at a1 a1' a3 a3' ⊢
              simp (disch := omega) only [sh4_y hk, sh4_y hk', b2_some, e10, if_false, q_ck, lt_eq, shc_n hk, shc_n hk', a1, a1', a3, a3', q_eq, cl, f_X4_failed]
            · have u : up (up (up μ 0 11 0) 0 11 2) 43 0 0 44 k = nI l := by rw [up_ne (by omega), up_ne (by omega)]; exact a4
              have u' : up (up (up μ 0 11 0) 0 11 2) 43 0 0 44 k' = nI l' := by rw [up_ne (by omega), up_ne (by omega)]; exact a4'
              simp only [f_X5_copy, lt_eq]
              generalize up (up (up μ 0 11 0) 0 11 2) 43 0 0 = ν at u u' ⊢
              rw [sh5_y hk, b2_some, if_neg (e10 ▸ not_false), sh5_y hk', b2_some, if_neg (e10 ▸ not_false), q_ck hk (by omega), q_cl (by omega), u, if_neg (by rw [q_n9 (by omega)]; exact not_false), q_ck hk' (by omega), q_cl (by omega), u', if_neg (by rw [q_n9 (by omega)]; exact not_false), q_ck hk (by omega), q_ck hk' (by omega), if_neg (by rw [q_eq (by omega) (by omega)]; exact cl)]; rfl
