def e00b : BD := fun a c => if a = 0 ∧ c = 2 then 4 else if a = 0 ∧ c = 3 then 1 else if a = 0 ∧ c = 4 then 7 else 0
theorem bk_all {k i n p : Nat} {V : Nat → Int32} {μ ν : Mem} (hi : i + n ≤ 60) (hp : p + n ≤ 240) (hX : TX k i n V μ) (hN : TN p n V ν) (h15 : ν 43 15 = nI p) : ∃ res μ' ok ν', f_X3_firstFault (35 + 2 * k) (nI i) (nI n) 8 μ = some (res, μ') ∧ f_X5_readAll (nI (p + n)) ν = some (ok, ν') ∧ FC μ' μ ∧ FM ν' ν ∧ ((ok = nI 0 ∧ ∃ t', t' ≤ n ∧ res = nI t' ∧ ν' 43 15 = nI (p + t')) ∨ (ok = nI 1 ∧ res = -9 ∧ ∃ e, WP e ∧ 1 ≤ e 0 0 ∧ 1 ≤ e 0 1 ∧ BKc 8 μ' e ∧ DM ν' e)) := by
  have F0 : FC (up (up (up (up (up (up μ 8 5 0) 8 6 0) 8 7 4) 8 8 1) 8 9 7) 32 0 0) μ := FC_u (FC_u (FC_u (FC_u (FC_u (FC_u (FC_r _) (by omega)) (by omega)) (by omega)) (by omega)) (by omega)) (by omega)
  have M0 : FM (up (up ν 43 16 0) 43 17 0) ν := FM_v (FM_v (FM_r _) (by omega)) (by omega)
  have c1 : f_X3_firstFault (35 + 2 * k) (nI i) (nI n) 8 μ = s1 (Lp k i n FU 0 (up (up (up (up (up (up μ 8 5 0) 8 6 0) 8 7 4) 8 8 1) 8 9 7) 32 0 0)) (fun μ6 => if μ6 32 0 = 8 then some (-9, μ6) else some (nI n, μ6)) (fun o => some o) := rfl
  have b0 : BKc 8 (up (up (up (up (up (up μ 8 5 0) 8 6 0) 8 7 4) 8 8 1) 8 9 7) 32 0 0) e00b := by
    refine ⟨by simp [up_if, e00b]; rfl, by simp [up_if, e00b]; rfl, by simp [up_if, e00b]; rfl, by simp [up_if, e00b]; rfl, by simp [up_if, e00b]; rfl, fun q hq => ?_, fun q hq => ?_⟩
    · simp [e00b] at hq
    · simp [e00b] at hq
  have d0 : DM (up (up ν 43 16 0) 43 17 0) e00b := by
    refine ⟨by simp [up_if, e00b]; rfl, by simp [up_if, e00b]; rfl, fun q hq => ?_, fun q hq => ?_⟩
    · simp [e00b] at hq
    · simp [e00b] at hq
  have w0 : WP e00b := ⟨by simp [e00b], by simp [e00b], by simp [e00b], by simp [e00b], by simp [e00b], fun q hq => by simp [e00b] at hq, fun q hq => by simp [e00b] at hq⟩
  have s0 : up (up (up (up (up (up μ 8 5 0) 8 6 0) 8 7 4) 8 8 1) 8 9 7) 32 0 0 32 0 = nI 0 := up_at _ _ _ _
  have h15' : up (up ν 43 16 0) 43 17 0 43 15 = nI (p + 0) := by rw [up_ot (by omega), up_ot (by omega)]; exact h15
  have m1 : f_X5_readAll (nI (p + n)) ν = b2 (f_X5_isSign (nI (p + n)) 98 (up (up ν 43 16 0) 43 17 0)) fun x4 μ3 => if x4 = 0 then some (0, μ3) else jL (nI (p + n)) FU μ3 := rfl
  have hX0 := TX_f hX F0
  have hN0 := TN_f hN M0
  have B : BP n p (Lp k i n FU 0 (up (up (up (up (up (up μ 8 5 0) 8 6 0) 8 7 4) 8 8 1) 8 9 7) 32 0 0)) (f_X5_readAll (nI (p + n)) ν) μ ν := by
    rw [m1]
    revert F0 b0 s0 hX0 h15' hN0 d0 M0
    generalize up (up (up (up (up (up μ 8 5 0) 8 6 0) 8 7 4) 8 8 1) 8 9 7) 32 0 0 = μ2
    generalize up (up ν 43 16 0) 43 17 0 = ν2
    intro F0 M0 b0 d0 s0 h15' hX0 hN0
    have S := m_isS (x := 98) (V := V) (t := 0) hp (Nat.zero_le _) h15' (fun c => hN0 0 c)
    have G : f_X3_goesOn (V 0) 8 μ2 = if V 0 = 98 then some (1, up μ2 32 0 1) else some (0, up μ2 32 0 1) := by
      rw [f_X3_goesOn, lt_eq, s0, if_pos (by decide), lt_eq]
    have FU1 : FU = 999 + 1 := rfl
    by_cases c : 0 < n ∧ V 0 = 98
    · rw [if_pos c] at S
      have L1 : Lp k i n FU 0 μ2 = Lp k i n 999 1 (up μ2 32 0 1) := by
        rw [FU1, Lp_s hi c.1 hX0, G, if_pos c.2, b2_some, if_neg (by decide)]
      rw [S, b2_some, if_neg (e10 ▸ not_false), L1]
      have F1 : FC (up μ2 32 0 1) μ2 := FC_u (FC_r _) (by omega)
      have M1 : FM (up ν2 43 15 (nI (p + (0 + 1)))) ν2 := FM_v (FM_r _) (by omega)
      have b1' : BKc 8 (up μ2 32 0 1) e00b := BKc_fr b0 (up_ne (by omega)) (up_ne (by omega)) (up_ne (by omega)) (up_ne (by omega)) (up_ne (by omega)) (up_ne (by omega))
      have d1' : DM (up ν2 43 15 (nI (p + (0 + 1)))) e00b := by
        obtain ⟨q1, q2, q3, q4⟩ := d0
        exact ⟨by rw [up_ot (by omega)]; exact q1, by rw [up_ot (by omega)]; exact q2, fun q hq => by simp [e00b] at hq, fun q hq => by simp [e00b] at hq⟩
      exact BP_t (bk_L hi hp 7 1 999 FU e00b _ _ (by simp [e00b]) (by unfold FU; omega) (by omega) (by omega) w0 (by simp [e00b]) b1' d1' (by rw [up_at]; simp [e00b]; rfl) (TX_f hX0 F1) (TN_f hN0 M1) (up_at _ _ _ _)) (FC_t F1 F0) (FM_t M1 M0)
    · rw [if_neg c] at S
      rw [S, b2_some, if_pos (e00 ▸ trivial)]
      by_cases c' : 0 < n
      · refine .inl ⟨0, up μ2 32 0 1, ν2, by omega, .inl ?_, rfl, h15', FC_u F0 (by omega), M0⟩
        rw [FU1, Lp_s hi c' hX0, G, if_neg (fun q => c ⟨c', q⟩), b2_some, if_pos rfl]
      · have n0 : 0 = n := by omega
        subst n0
        exact .inl ⟨0, μ2, ν2, by omega, .inr ⟨rfl, by rw [FU1]; exact Lp_e, 0, by omega, s0⟩, rfl, h15', F0, M0⟩
  rw [c1]
  rcases B with ⟨t', μ', ν', a1, a2, a3, a4, a5, a6⟩ | ⟨e, μ', ν', a1, a2, a3, a4, a5, a6, a7, a8, a9, a10⟩
  · rcases a2 with a2 | ⟨a2, a2', s, s7, hs⟩
    · exact ⟨nI t', μ', nI 0, ν', by rw [a2]; rfl, a3, a5, a6, .inl ⟨rfl, t', a1, rfl, a4⟩⟩
    · refine ⟨nI t', μ', nI 0, ν', ?_, a3, a5, a6, .inl ⟨rfl, t', a1, rfl, a4⟩⟩
      rw [a2', s1_inl, hs, l_8, if_neg (by rw [q_eq (by omega) (by omega)]; omega), a2]
  · refine ⟨-9, μ', nI 1, ν', ?_, a3, a9, a10, .inr ⟨rfl, rfl, e, a4, a5, a6, a7, a8⟩⟩
    rw [a1, s1_inl, a2, if_pos (by decide)]
theorem m_103 : ∀ (m j f : Nat) (μ : Mem), j + m = 7 → m < f → ∃ μ', lp_X5_books_103 f (nI j) μ = some μ' ∧ (∀ c, c < 47 ∨ 51 < c → μ' c = μ c) ∧ (∀ i, i < 7 → j ≤ i → μ' 47 i = μ 52 i ∧ μ' 48 i = μ 53 i ∧ μ' 49 i = μ 54 i ∧ μ' 50 i = μ 53 (7 + i) ∧ μ' 51 i = μ 54 (7 + i)) ∧ (∀ i, i < j → μ' 47 i = μ 47 i ∧ μ' 48 i = μ 48 i ∧ μ' 49 i = μ 49 i ∧ μ' 50 i = μ 50 i ∧ μ' 51 i = μ 51 i) := by
  intro m
  induction m with
  | zero =>
    intro j f μ hj hf
    obtain ⟨f, rfl⟩ : ∃ m, f = m + 1 := ⟨f - 1, by omega⟩
    have : j = 7 := by omega
    subst this
    exact ⟨μ, by rw [lp_X5_books_103, l_7, if_pos (Int32.le_refl _)], fun _ _ => rfl, fun i h1 h2 => by omega, fun i hi => ⟨rfl, rfl, rfl, rfl, rfl⟩⟩
  | succ m ih =>
    intro j f μ hj hf
    obtain ⟨f, rfl⟩ : ∃ m, f = m + 1 := ⟨f - 1, by omega⟩
    obtain ⟨μ', e, f1, f2, f3⟩ := ih (j + 1) f (up (up (up (up (up μ 47 j (μ 52 j)) 48 j (μ 53 j)) 49 j (μ 54 j)) 50 j (μ 53 (7 + j))) 51 j (μ 54 (7 + j))) (by omega) (by omega)
    refine ⟨μ', ?_, fun c hc => by rw [f1 c hc, up_ne (by omega), up_ne (by omega), up_ne (by omega), up_ne (by omega), up_ne (by omega)], fun i h1 h2 => ?_, fun i hi => ?_⟩
    · rw [lp_X5_books_103, l_7, if_neg (show ¬ nI 7 ≤ nI j by rw [q_le (by omega) (by omega)]; omega)]
      simp (disch := omega) only [q_ck, q_cl, lt_eq, q_add, up_ne, l_1]
      exact e
    · by_cases c : i = j
      · subst c
        have := f3 i (by omega)
        simpa [up_if] using this
      · have := f2 i h1 (by omega)
        simpa [up_if] using this
    · have := f3 i (by omega)
      have n : ¬ i = j := by omega
      simpa [up_if, n] using this
theorem t_books (x1 x2 x3 x4 : Int32) (μ : Mem) (h : Inv μ) : ∃ (r : Int32) (μ1 μ2 : Mem), f_X4_books x1 x2 x3 x4 μ = some (r, μ1) ∧ f_X5_books x1 x2 x3 x4 μ1 = some (r, μ2) ∧ Inv μ2 := by
  obtain ⟨⟨d, hI⟩, ht, hf⟩ := h
  rcases ix7 (x := x1) (n := 4) (by omega) with hx | ⟨k, hk, rfl⟩
  · exact ⟨-1, up μ 0 11 0, _, by simp only [f_X4_books, lt_eq, sh4_n hx, b2_some, e00, if_true], by simp only [f_X5_books, lt_eq, sh5_n hx, b2_some, e00, if_true], Inv_f hI ht 0⟩
  rcases ix7 (x := x2) (n := 3) (by omega) with hz | ⟨l, hl, rfl⟩
  · exact ⟨-2, up μ 0 11 0, _, by simp only [f_X4_books, lt_eq, sh4_y hk, ln4_n hz, b2_some, e10, if_false, e00, if_true], by simp only [f_X5_books, lt_eq, sh5_y hk, ln5_n hz, b2_some, e10, if_false, e00, if_true], Inv_f hI ht 0⟩
  have hJ : Iv (up μ 0 11 0) d := Iv_u0 hI (by omega)
  have R := hJ.2.2.2.2.1 k hk
  obtain ⟨sz, n1, n2', n3⟩ := R.2.1
  have CL : f_X4_books (nI k) (nI l) x3 x4 μ = b2 (f_X2_faultAs (35 + 2 * k) (nI l) (up μ 0 11 0)) fun x8 μ7 => if x8 = 0 then (if 0 ≤ x4 then jn_X4_books_53 x3 x4 (35 + 2 * k) x8 μ7 else jn_X4_books_53 x3 x4 (35 + 2 * k) 4 μ7) else jn_X4_books_53 x3 x4 (35 + 2 * k) x8 μ7 := by
    simp (disch := omega) only [f_X4_books, lt_eq, sh4_y hk, ln4_y hl, b2_some, e10, if_false, q_ck, shc_n hk]
  have ML : ∀ ν : Mem, f_X5_books (nI k) (nI l) x3 x4 ν = b2 (f_X5_against (nI k) (nI l) x3 x4 (up ν 43 0 0)) fun x7 μ6 => if x7 = 0 then (lt (60 * nI k + x3) fun x8 => lt (up μ6 43 15 x8) fun μ9 => b2 (f_X5_readAll (x8 + x4) μ9) fun x11 μ10 => if x11 = 0 then some (-100 - (μ10 43 15 - x8), μ10) else lt (up μ10 43 5 (μ10 43 16)) fun μ12 => lt (up μ12 43 6 (μ12 43 17)) fun μ13 => b1 (lp_X5_books_103 FU 0 μ13) fun μ20 => lt (up μ20 43 7 4) fun μ21 => lt (up μ21 43 8 1) fun μ22 => lt (up μ22 43 9 7) fun μ23 => lt (up μ23 43 29 0) fun μ24 => some (μ24 43 5 + μ24 43 6, μ24)) else b2 (f_X5_fails x7 μ6) fun x26 μ25 => some (x26, μ25) := by
    intro ν
    rw [f_X5_books, lt_eq, sh5_y hk, b2_some, if_neg (e10 ▸ not_false), ln5_y hl, b2_some, if_neg (e10 ▸ not_false)]
  have FF : ∀ e : Nat, 1 ≤ e → e ≤ 4 → f_X4_books (nI k) (nI l) x3 x4 μ = jn_X4_books_72 x3 x4 (35 + 2 * k) (nI e) (up μ 0 11 0) → f_X5_against (nI k) (nI l) x3 x4 (up (up (up μ 0 11 0) 0 11 (nI e)) 43 0 0) = some (nI e, up (up (up μ 0 11 0) 0 11 (nI e)) 43 0 0) → ∃ (r : Int32) (μ1 μ2 : Mem), f_X4_books (nI k) (nI l) x3 x4 μ = some (r, μ1) ∧ f_X5_books (nI k) (nI l) x3 x4 μ1 = some (r, μ2) ∧ Inv μ2 := by
    intro e e1 e3 u v
    have ne : ¬ nI e = 0 := nz (by omega) (by omega)
    refine ⟨-10 - nI e, up (up μ 0 11 0) 0 11 (nI e), up (up (up (up μ 0 11 0) 0 11 (nI e)) 43 0 0) 43 0 (nI e), ?_, ?_, Inv_ff hI ht 0 (nI e)⟩
    · rw [u, jn_X4_books_72, if_neg ne]; rfl
    · rw [ML, v, b2_some, if_neg ne]; rfl
  have u5 : ∀ e : Int32, up (up (up μ 0 11 0) 0 11 e) 43 0 0 45 k = nI sz := fun e => by rw [up_ne (by omega), up_ne (by omega)]; exact n3
  have u4 : ∀ e : Int32, up (up (up μ 0 11 0) 0 11 e) 43 0 0 44 k = up μ 0 11 0 44 k := fun e => by rw [up_ne (by omega), up_ne (by omega)]
  rcases R.1 with ⟨a1, a2⟩ | ⟨a1, l', a2, a3, a4⟩
  · apply FF 1 (by omega) (by omega)
    · rw [CL, f_X2_faultAs, a1, if_pos (e00 ▸ trivial), b2_some, if_neg (by decide), jn_X4_books_53, if_neg (by decide)]; rfl
    · exact (m_ag (l' := 0) hk n1 (u5 _)).1 (by rw [u4]; exact a2)
  by_cases cl : l' = l
  · subst cl
    have fa : f_X2_faultAs (35 + 2 * k) (nI l') (up μ 0 11 0) = some (0, up μ 0 11 0) := by
      rw [f_X2_faultAs, a1, if_neg (e10 ▸ not_false), a3, if_pos rfl]
    by_cases hy : x4 < 0
    · apply FF 4 (by omega) (by omega)
      · rw [CL, fa, b2_some, if_pos rfl, if_neg (Int32.not_le.mpr hy), jn_X4_books_53, if_neg (by decide)]; rfl
      · exact (m_ag (l' := 0) hk n1 (u5 _)).2.2.1 (by rw [u4]; exact a4) hl hy
    · have CL1 : f_X4_books (nI k) (nI l') x3 x4 μ = jn_X4_books_53 x3 x4 (35 + 2 * k) 0 (up μ 0 11 0) := by
        rw [CL, fa, b2_some, if_pos rfl, if_pos (Int32.not_lt.mp hy)]
      by_cases hc : HC sz x3 x4
      · obtain ⟨i, n, p1, p2, p3⟩ := HC_nat n1 hc
        subst p1 p2
        have CL2 : f_X4_books (nI k) (nI l') (nI i) (nI n) μ = b2 (f_X3_firstFault (35 + 2 * k) (nI i) (nI n) 8 (up μ 0 11 0)) fun x10 μ9 => if x10 = -9 then (b1 (f_X1_becomeLike 2 8 μ9) fun μ11 => lt (up μ11 0 8 0) fun μ12 => lt (up μ12 0 9 0) fun μ13 => some (μ13 2 5 + μ13 2 6, μ13)) else some (-100 - x10, μ9) := by
          rw [CL1, jn_X4_books_53, if_pos rfl, hc_y n2' n1 hc, b2_some, if_neg (e10 ▸ not_false), jn_X4_books_72, if_pos rfl]
        have ML2 : ∀ ν : Mem, ν 44 k = nI l' → ν 45 k = nI sz → f_X5_books (nI k) (nI l') (nI i) (nI n) ν = b2 (f_X5_readAll (nI (60 * k + i + n)) (up (up ν 43 0 0) 43 15 (nI (60 * k + i)))) fun x11 μ10 => if x11 = 0 then some (-100 - (μ10 43 15 - nI (60 * k + i)), μ10) else lt (up μ10 43 5 (μ10 43 16)) fun μ12 => lt (up μ12 43 6 (μ12 43 17)) fun μ13 => b1 (lp_X5_books_103 FU 0 μ13) fun μ20 => lt (up μ20 43 7 4) fun μ21 => lt (up μ21 43 8 1) fun μ22 => lt (up μ22 43 9 7) fun μ23 => lt (up μ23 43 29 0) fun μ24 => some (μ24 43 5 + μ24 43 6, μ24) := by
          intro ν q1 q2
          rw [ML, (m_ag (l' := 0) hk n1 (by rw [up_ne (by omega)]; exact q2)).2.2.2.1 (by rw [up_ne (by omega)]; exact q1) hl hc, b2_some, if_pos rfl, lt_eq, l_60, q_mul, q_add, lt_eq, q_add]
        have hX : TX k i n (fun t => up μ 0 11 0 (36 + 2 * k) (i + t)) (up μ 0 11 0) := fun _ _ => rfl
        have tn : ∀ ν : Mem, ν 46 = up μ 0 11 0 46 → TN (60 * k + i) n (fun t => up μ 0 11 0 (36 + 2 * k) (i + t)) ν := fun ν e t ht => by
          rw [e, Nat.add_assoc]; exact R.2.2 (i + t) (by omega)
        obtain ⟨r0, μa, _, _, z1, _, z3, _, _⟩ := bk_all (p := 60 * k + i) (ν := up (up μ 0 11 0) 43 15 (nI (60 * k + i))) (by omega) (by omega) hX (tn _ (up_ne (by omega))) (up_at _ _ _ _)
        have again : ∀ μc : Mem, (∀ c, c ≠ 0 → (c < 2 ∨ 13 < c) → c ≠ 32 → μc c = up μ 0 11 0 c) → ∃ ok ν', f_X5_readAll (nI (60 * k + i + n)) (up (up μc 43 0 0) 43 15 (nI (60 * k + i))) = some (ok, ν') ∧ FM ν' (up (up μc 43 0 0) 43 15 (nI (60 * k + i))) ∧ ((ok = nI 0 ∧ ∃ t', t' ≤ n ∧ r0 = nI t' ∧ ν' 43 15 = nI (60 * k + i + t')) ∨ (ok = nI 1 ∧ r0 = -9 ∧ ∃ e, WP e ∧ 1 ≤ e 0 0 ∧ 1 ≤ e 0 1 ∧ BKc 8 μa e ∧ DM ν' e)) := by
          intro μc hc'
          obtain ⟨r1, μa', ok, ν', y1, y2, y3, y4, y5⟩ := bk_all (p := 60 * k + i) (ν := up (up μc 43 0 0) 43 15 (nI (60 * k + i))) (by omega) (by omega) hX (tn _ (by rw [up_ne (by omega), up_ne (by omega)]; exact hc' 46 (by omega) (by omega) (by omega))) (up_at _ _ _ _)
          rw [z1] at y1
          injection y1 with y1
          injection y1 with y6 y7
          subst y6 y7
          exact ⟨ok, ν', y2, y4, y5⟩
        by_cases c9 : r0 = -9
        · -- the text is taken
          obtain ⟨ok0, ν0, k1, k2, k3⟩ := again μa (fun c h0 h1 h2 => z3 c (by omega) h2)
          rcases k3 with ⟨_, t', t1, t2, _⟩ | ⟨_, _, e, w, e1, e2, hb8, _⟩
          · rw [c9] at t2
            exact absurd t2.symm (by rw [q_n9 (by omega)]; exact not_false)
          · have W : WFd e := ⟨w.1, w.2.1, by rw [w.2.2.1]; omega, by rw [w.2.2.2.1]; omega, by rw [w.2.2.2.2.1]; omega, w.2.2.2.2.2.1, w.2.2.2.2.2.2, by omega⟩
            obtain ⟨μb, g0, g1, g2⟩ := c_becomeLike (q0 := 2) (q1 := 8) W (by omega) hb8
            have Fc : ∀ c, c ≠ 0 → (c < 2 ∨ 13 < c) → c ≠ 32 → up (up μb 0 8 0) 0 9 0 c = up μ 0 11 0 c := fun c h0 h1 h2 => by rw [up_ne h0, up_ne h0, g2 c (by omega), z3 c (by omega) h2]
            obtain ⟨ok, ν', y1, y2, y3⟩ := again (up (up μb 0 8 0) 0 9 0) Fc
            rcases y3 with ⟨_, t', t1, t2, _⟩ | ⟨rfl, _, e', w', e1', e2', hb8', hd⟩
            · rw [c9] at t2
              exact absurd t2.symm (by rw [q_n9 (by omega)]; exact not_false)
            · have W' : WFd e' := ⟨w'.1, w'.2.1, by rw [w'.2.2.1]; omega, by rw [w'.2.2.2.1]; omega, by rw [w'.2.2.2.2.1]; omega, w'.2.2.2.2.2.1, w'.2.2.2.2.2.2, by omega⟩
              obtain ⟨μb', g0', g1', g2'⟩ := c_becomeLike (q0 := 2) (q1 := 8) W' (by omega) hb8'
              rw [g0] at g0'
              injection g0' with g0'
              subst g0'
              obtain ⟨d1, d2, d3, d4⟩ := hd
              have q17 : up ν' 43 5 (nI (e' 0 0)) 43 17 = nI (e' 0 1) := by rw [up_ot (by omega)]; exact d2
              obtain ⟨μp, p0, p1, p2, _⟩ := m_103 7 0 FU (up (up ν' 43 5 (nI (e' 0 0))) 43 6 (nI (e' 0 1))) (by omega) (by unfold FU; omega)
              have p0' : lp_X5_books_103 FU 0 (up (up ν' 43 5 (nI (e' 0 0))) 43 6 (nI (e' 0 1))) = some μp := p0
              have Fp : ∀ c, c ≠ 43 → (c < 47 ∨ 54 < c) → up (up (up (up μp 43 7 4) 43 8 1) 43 9 7) 43 29 0 c = up (up μb 0 8 0) 0 9 0 c := fun c h1 h2 => by rw [up_ne h1, up_ne h1, up_ne h1, up_ne h1, p1 c (by omega), up_ne h1, up_ne h1, y2.1 c h1 (by omega), up_ne h1, up_ne h1]
              have Fb : ∀ c, c ≠ 0 → c ≠ 43 → (c < 47 ∨ 54 < c) → up (up (up (up μp 43 7 4) 43 8 1) 43 9 7) 43 29 0 c = μb c := fun c h0 h1 h2 => by rw [Fp c h1 h2, up_ne h0, up_ne h0]
              have Fo : ∀ c, c ≠ 0 → c ≠ 43 → 13 < c → c ≠ 32 → (c < 47 ∨ 54 < c) → up (up (up (up μp 43 7 4) 43 8 1) 43 9 7) 43 29 0 c = up μ 0 11 0 c := fun c h0 h1 h2 h3 h4 => by rw [Fb c h0 h1 h4, g2 c (by omega), z3 c (by omega) h3]
              have P : ∀ c, 47 ≤ c → c ≤ 51 → up (up (up (up μp 43 7 4) 43 8 1) 43 9 7) 43 29 0 c = μp c := fun c h1 h2 => by rw [up_ne (by omega), up_ne (by omega), up_ne (by omega), up_ne (by omega)]
              have N : ∀ c, c ≠ 43 → up (up ν' 43 5 (nI (e' 0 0))) 43 6 (nI (e' 0 1)) c = ν' c := fun c h1 => by rw [up_ne h1, up_ne h1]
              have m43 : ∀ j, j ≠ 5 → j ≠ 6 → j ≠ 7 → j ≠ 8 → j ≠ 9 → j ≠ 29 → up (up (up (up μp 43 7 4) 43 8 1) 43 9 7) 43 29 0 43 j = ν' 43 j := fun j h1 h2 h3 h4 h5 h6 => by rw [up_ot h6, up_ot h5, up_ot h4, up_ot h3, p1 43 (by omega), up_ot h2, up_ot h1]
              have v5 : up (up (up (up μp 43 7 4) 43 8 1) 43 9 7) 43 29 0 43 5 = nI (e' 0 0) := by rw [up_ot (by omega), up_ot (by omega), up_ot (by omega), up_ot (by omega), p1 43 (by omega), up_ot (by omega), up_at]
              have v6 : up (up (up (up μp 43 7 4) 43 8 1) 43 9 7) 43 29 0 43 6 = nI (e' 0 1) := by rw [up_ot (by omega), up_ot (by omega), up_ot (by omega), up_ot (by omega), p1 43 (by omega), up_at]
              have a0 : ∀ j, j ≠ 8 → j ≠ 9 → j ≠ 11 → up (up (up (up μp 43 7 4) 43 8 1) 43 9 7) 43 29 0 0 j = μ 0 j := fun j h1 h2 h3 => by rw [Fp 0 (by omega) (by omega), up_ot h2, up_ot h1, g2 0 (by omega), z3 0 (by omega) (by omega), up_ot h3]
              have w1' := w'.1
              have w2' := w'.2.1
              refine ⟨nI (e' 0 0) + nI (e' 0 1), up (up μb 0 8 0) 0 9 0, up (up (up (up μp 43 7 4) 43 8 1) 43 9 7) 43 29 0, ?_, ?_, ⟨e', W', BKc_fr g1' (Fb _ (by omega) (by omega) (by omega)) (Fb _ (by omega) (by omega) (by omega)) (Fb _ (by omega) (by omega) (by omega)) (Fb _ (by omega) (by omega) (by omega)) (Fb _ (by omega) (by omega) (by omega)) (Fb _ (by omega) (by omega) (by omega)), ⟨v5, v6, ?_, ?_, ?_, fun j hj => ?_, fun j hj => ?_⟩, .inl ?_, fun k' hk' => RS_fr (hJ.2.2.2.2.1 k' hk') (Fo _ (by omega) (by omega) (by omega) (by omega) (by omega)) (Fo _ (by omega) (by omega) (by omega) (by omega) (by omega)) (by rw [Fo 44 (by omega) (by omega) (by omega) (by omega) (by omega)]) (by rw [Fo 45 (by omega) (by omega) (by omega) (by omega) (by omega)]) (fun j hj => by rw [Fo 46 (by omega) (by omega) (by omega) (by omega) (by omega)]), ⟨0, by omega, ?_, up_at _ _ _ _, fun j hj => absurd hj (Nat.not_lt_zero _)⟩⟩, ?_, ?_⟩
              · have b5 : up (up μb 0 8 0) 0 9 0 2 5 = nI (e' 0 0) := by rw [up_ne (by omega), up_ne (by omega)]; exact g1'.1
                have b6 : up (up μb 0 8 0) 0 9 0 2 6 = nI (e' 0 1) := by rw [up_ne (by omega), up_ne (by omega)]; exact g1'.2.1
                rw [CL2, z1, b2_some, if_pos c9, g0, b1_some, lt_eq, lt_eq, b5, b6]
              · rw [ML2 _ (by rw [Fc 44 (by omega) (by omega) (by omega)]; exact a4) (by rw [Fc 45 (by omega) (by omega) (by omega)]; exact n3), y1, b2_some, if_neg (e10 ▸ not_false), lt_eq, d1, lt_eq, q17, p0', b1_some, lt_eq, lt_eq, lt_eq, lt_eq, v5, v6]
              · rw [w'.2.2.1, up_ot (by omega), up_ot (by omega), up_ot (by omega), up_at]; rfl
              · rw [w'.2.2.2.1, up_ot (by omega), up_ot (by omega), up_at]; rfl
              · rw [w'.2.2.2.2.1, up_ot (by omega), up_at]; rfl
              · obtain ⟨s1', s2', s3', _, _⟩ := p2 j (by omega) (by omega)
                rw [P 47 (by omega) (by omega), P 48 (by omega) (by omega), P 49 (by omega) (by omega), s1', s2', s3', N 52 (by omega), N 53 (by omega), N 54 (by omega)]
                exact d3 j hj
              · obtain ⟨_, _, _, s4', s5'⟩ := p2 j (by omega) (by omega)
                rw [P 50 (by omega) (by omega), P 51 (by omega) (by omega), s4', s5', N 53 (by omega), N 54 (by omega)]
                exact d4 j hj
              · rw [Fp 0 (by omega) (by omega), up_at]; rfl
              · rw [Fp 0 (by omega) (by omega), up_ot (by omega), up_at]; rfl
              · rw [a0 10 (by omega) (by omega) (by omega), m43 1 (by omega) (by omega) (by omega) (by omega) (by omega) (by omega), y2.2 1 (by omega), up_ot (by omega), up_ot (by omega), Fc 43 (by omega) (by omega) (by omega), up_ne (by omega)]
                exact ht
              · rw [m43 0 (by omega) (by omega) (by omega) (by omega) (by omega) (by omega), y2.2 0 (by omega), up_ot (by omega), up_at, Fp 0 (by omega) (by omega), up_ot (by omega), up_ot (by omega), g2 0 (by omega), z3 0 (by omega) (by omega), up_at]
        · -- the text is refused
          obtain ⟨ok, ν', y1, y2, y3⟩ := again μa (fun c h0 h1 h2 => z3 c (by omega) h2)
          rcases y3 with ⟨rfl, t', t1, t2, t3⟩ | ⟨_, t2, _⟩
          · have Fn : ∀ c, c ≠ 43 → (c < 8 ∨ 13 < c) → c ≠ 32 → (c < 52 ∨ 54 < c) → ν' c = up μ 0 11 0 c := fun c h1 h2 h3 h4 => by rw [y2.1 c h1 h4, up_ne h1, up_ne h1, z3 c h2 h3]
            have Fn3 : ∀ j, j ≠ 0 → (j < 15 ∨ 17 < j) → ν' 43 j = up μ 0 11 0 43 j := fun j h1 h2 => by rw [y2.2 j h2, up_ot (by omega), up_ot h1, z3 43 (by omega) (by omega)]
            refine ⟨-100 - nI t', μa, ν', ?_, ?_, ⟨d, Iv_fr hJ (fun c hc' => ?_) ⟨?_, ?_⟩ (fun j hj => Fn3 j (by omega) (by omega))⟩, ?_, ?_⟩
            · rw [CL2, z1, b2_some, if_neg c9, t2]
            · rw [ML2 μa (by rw [z3 44 (by omega) (by omega)]; exact a4) (by rw [z3 45 (by omega) (by omega)]; exact n3), y1, b2_some, if_pos (e00 ▸ trivial), t3, q_sub (by omega), show 60 * k + i + t' - (60 * k + i) = t' by omega]
            · unfold Kp at hc'
              exact Fn c (by omega) (by omega) (by omega) (by omega)
            · rw [Fn 0 (by omega) (by omega) (by omega) (by omega)]
            · rw [Fn 0 (by omega) (by omega) (by omega) (by omega)]
            · rw [Fn 0 (by omega) (by omega) (by omega) (by omega), Fn3 1 (by omega) (by omega), up_ot (by omega), up_ne (by omega)]; exact ht
            · rw [Fn 0 (by omega) (by omega) (by omega) (by omega), up_at, y2.2 0 (by omega), up_ot (by omega), up_at]
          · exact absurd t2 c9
      · apply FF 3 (by omega) (by omega)
        · rw [CL1, jn_X4_books_53, if_pos rfl, hc_n n2' n1 hc, b2_some, if_pos (e00 ▸ trivial)]; rfl
        · exact (m_ag (l' := 0) hk n1 (u5 _)).2.2.2.2 (by rw [u4]; exact a4) hl hy hc
  · apply FF 2 (by omega) (by omega)
    · rw [CL, f_X2_faultAs, a1, if_neg (e10 ▸ not_false), a3, if_neg (by rw [q_eq (by omega) (by omega)]; exact cl), b2_some, if_neg (by decide), jn_X4_books_53, if_neg (by decide)]; rfl
    · exact (m_ag (l' := l') hk n1 (u5 _)).2.1 (by rw [u4]; exact a4) a2 hl cl
