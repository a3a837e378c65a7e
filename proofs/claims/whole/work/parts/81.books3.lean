def BP (n p : Nat) (CO : Option (Mem ⊕ (Int32 × Mem))) (MO : Option (Int32 × Mem)) (μ ν : Mem) : Prop := FL n p CO MO μ ν ∨ ∃ e μ' ν', CO = some (.inl μ') ∧ μ' 32 0 = nI 8 ∧ MO = some (nI 1, ν') ∧ WP e ∧ 1 ≤ e 0 0 ∧ 1 ≤ e 0 1 ∧ BKc 8 μ' e ∧ DM ν' e ∧ FC μ' μ ∧ FM ν' ν
theorem BP_t {n p : Nat} {CO : Option (Mem ⊕ (Int32 × Mem))} {MO : Option (Int32 × Mem)} {μ ν μ1 ν1 : Mem} (h : BP n p CO MO μ1 ν1) (h1 : FC μ1 μ) (h2 : FM ν1 ν) : BP n p CO MO μ ν := by
  rcases h with ⟨t', μ', ν', a1, a2, a3, a4, a5, a6⟩ | ⟨e, μ', ν', a1, a2, a3, a4, a5, a6, a7, a8, a9, a10⟩
  · exact .inl ⟨t', μ', ν', a1, a2, a3, a4, FC_t a5 h1, FM_t a6 h2⟩
  · exact .inr ⟨e, μ', ν', a1, a2, a3, a4, a5, a6, a7, a8, FC_t a9 h1, FM_t a10 h2⟩
def eR (e : BD) (g1 g2 : Nat) : BD := fun a c => if a = 0 ∧ c = 1 then e 0 1 + 1 else if a = 4 ∧ c = e 0 1 then g1 else if a = 5 ∧ c = e 0 1 then g2 else e a c
def eL (e : BD) (kd g1 g2 : Nat) : BD := fun a c => if a = 0 ∧ c = 0 then e 0 0 + 1 else if a = 1 ∧ c = e 0 0 then kd else if a = 2 ∧ c = e 0 0 then g1 else if a = 3 ∧ c = e 0 0 then g2 else e a c
theorem WP_R {e : BD} {g1 g2 : Nat} (w : WP e) (h : e 0 1 < 7) (h1 : g1 ≤ 9) (h2 : g2 ≤ 4) : WP (eR e g1 g2) := by
  obtain ⟨w1, w2, w3, w4, w5, w6, w7⟩ := w
  refine ⟨by simpa [eR] using w1, by simp [eR]; omega, by simpa [eR] using w3, by simpa [eR] using w4, by simpa [eR] using w5, fun k hk => ?_, fun k hk => ?_⟩
  · have hk' : k < e 0 0 := by simpa [eR] using hk
    simpa [eR] using w6 k hk'
  · have hk' : k < e 0 1 + 1 := by simpa [eR] using hk
    by_cases c : k = e 0 1
    · subst c; simp [eR]; omega
    · have := w7 k (by omega)
      simpa [eR, c] using this
theorem WP_L {e : BD} {kd g1 g2 : Nat} (w : WP e) (h : e 0 0 < 7) (hk : kd < 3) (h1 : g1 ≤ 9) (h2 : g2 ≤ 4) : WP (eL e kd g1 g2) := by
  obtain ⟨w1, w2, w3, w4, w5, w6, w7⟩ := w
  refine ⟨by simp [eL]; omega, by simpa [eL] using w2, by simpa [eL] using w3, by simpa [eL] using w4, by simpa [eL] using w5, fun k hk => ?_, fun k hk => ?_⟩
  · have hk' : k < e 0 0 + 1 := by simpa [eL] using hk
    by_cases c : k = e 0 0
    · subst c; simp [eL]; omega
    · have := w6 k (by omega)
      simpa [eL, c] using this
  · have hk' : k < e 0 1 := by simpa [eL] using hk
    simpa [eL] using w7 k hk'
theorem BK_R {e : BD} {g1 g2 : Nat} {μ : Mem} {a b c : Int32} (h : BKc 8 μ e) : BKc 8 (up (up (up (up (up (up μ 32 0 a) 32 0 b) 12 (e 0 1) (nI g1)) 32 0 c) 13 (e 0 1) (nI g2)) 8 6 (nI (e 0 1 + 1))) (eR e g1 g2) := by
  obtain ⟨h1, h2, h3, h4, h5, h6, h7⟩ := h
  refine ⟨by simpa [eR, up_if] using h1, by simp [eR, up_if], by simpa [eR, up_if] using h3, by simpa [eR, up_if] using h4, by simpa [eR, up_if] using h5, fun k hk => ?_, fun k hk => ?_⟩
  · have hk' : k < e 0 0 := by simpa [eR] using hk
    simpa [eR, up_if] using h6 k hk'
  · have hk' : k < e 0 1 + 1 := by simpa [eR] using hk
    by_cases c : k = e 0 1
    · subst c; simp [eR, up_if]
    · have := h7 k (by omega)
      simpa [eR, up_if, c] using this
theorem BK_L {e : BD} {kd g1 g2 : Nat} {μ : Mem} {a a' b c : Int32} (h : BKc 8 μ e) : BKc 8 (up (up (up (up (up (up (up (up μ 32 0 a) 32 0 a') 9 (e 0 0) (nI kd)) 32 0 b) 10 (e 0 0) (nI g1)) 32 0 c) 11 (e 0 0) (nI g2)) 8 5 (nI (e 0 0 + 1))) (eL e kd g1 g2) := by
  obtain ⟨h1, h2, h3, h4, h5, h6, h7⟩ := h
  refine ⟨by simp [eL, up_if], by simpa [eL, up_if] using h2, by simpa [eL, up_if] using h3, by simpa [eL, up_if] using h4, by simpa [eL, up_if] using h5, fun k hk => ?_, fun k hk => ?_⟩
  · have hk' : k < e 0 0 + 1 := by simpa [eL] using hk
    by_cases c : k = e 0 0
    · subst c; simp [eL, up_if]
    · have := h6 k (by omega)
      simpa [eL, up_if, c] using this
  · have hk' : k < e 0 1 := by simpa [eL] using hk
    simpa [eL, up_if] using h7 k hk'
theorem DM_R {e : BD} {g1 g2 : Nat} {ν : Mem} {a b c : Int32} (w : WP e) (h : DM ν e) : DM (up (up (up (up (up (up ν 43 15 a) 53 (7 + e 0 1) (nI g1)) 43 15 b) 54 (7 + e 0 1) (nI g2)) 43 15 c) 43 17 (nI (e 0 1 + 1))) (eR e g1 g2) := by
  obtain ⟨h1, h2, h3, h4⟩ := h
  have w1 := w.1
  refine ⟨by simpa [eR, up_if] using h1, by simp [eR, up_if], fun k hk => ?_, fun k hk => ?_⟩
  · have hk' : k < e 0 0 := by simpa [eR] using hk
    have n7 : ¬ k = 7 + e 0 1 := by omega
    simpa [eR, up_if, n7] using h3 k hk'
  · have hk' : k < e 0 1 + 1 := by simpa [eR] using hk
    by_cases c : k = e 0 1
    · subst c; simp [eR, up_if]
    · have := h4 k (by omega)
      simpa [eR, up_if, c] using this
theorem DM_L {e : BD} {kd g1 g2 : Nat} {ν : Mem} {a a' b c : Int32} (hL : e 0 0 < 7) (h : DM ν e) : DM (up (up (up (up (up (up (up (up ν 43 15 a) 52 (e 0 0) (nI kd)) 43 15 a') 53 (e 0 0) (nI g1)) 43 15 b) 54 (e 0 0) (nI g2)) 43 15 c) 43 16 (nI (e 0 0 + 1))) (eL e kd g1 g2) := by
  obtain ⟨h1, h2, h3, h4⟩ := h
  refine ⟨by simp [eL, up_if], by simpa [eL, up_if] using h2, fun k hk => ?_, fun k hk => ?_⟩
  · have hk' : k < e 0 0 + 1 := by simpa [eL] using hk
    by_cases c : k = e 0 0
    · subst c; simp [eL, up_if]
    · have := h3 k (by omega)
      simpa [eL, up_if, c] using this
  · have hk' : k < e 0 1 := by simpa [eL] using hk
    have n7 : ¬ 7 + k = e 0 0 := by omega
    simpa [eL, up_if, n7] using h4 k hk'
def jR (E : Int32) (f : Nat) (ν : Mem) : Option (Int32 × Mem) := s1 (lp_X5_readAll_105 E f ν) (fun μ18 => jn_X5_readAll_169 E μ18) (fun o => some o)
theorem go5 {v : Int32} {N : Nat} {μ : Mem} (hN : N ≤ 7) (h : μ 32 0 = nI 5) (h5 : μ 8 5 = nI N) : (v = 44 → f_X3_goesOn v 8 μ = some (nI 1, up μ 32 0 (nI 6))) ∧ (v = 59 → N < 7 → f_X3_goesOn v 8 μ = some (nI 1, up μ 32 0 (nI 2))) ∧ (v ≠ 44 → (v = 59 → N = 7) → ∃ μ', f_X3_goesOn v 8 μ = some (nI 0, μ') ∧ FC μ' μ) := by
  have G : f_X3_goesOn v 8 μ = if v = 59 then jn_X3_goesOn_103 v 8 2 μ else jn_X3_goesOn_103 v 8 6 μ := by
    rw [f_X3_goesOn, lt_eq, h, if_neg (by decide), if_neg (by decide), if_neg (by decide), if_neg (by decide), if_neg (by decide), if_pos (by decide)]
  have e5 : ∀ z, up μ 32 0 z 8 5 = nI N := fun z => by rw [up_ne (by omega)]; exact h5
  refine ⟨fun e => ?_, fun e hn => ?_, fun e e' => ?_⟩
  · subst e
    rw [G, if_neg (by decide), jn_X3_goesOn_103, lt_eq, if_pos rfl]; rfl
  · subst e
    rw [G, if_pos rfl, jn_X3_goesOn_103, lt_eq, if_neg (by decide), if_pos rfl, e5, l_7, if_neg (by rw [q_le (by omega) (by omega)]; omega)]; rfl
  · by_cases c : v = 59
    · have := e' c
      subst c this
      refine ⟨up μ 32 0 2, ?_, FC_u (FC_r _) (by omega)⟩
      rw [G, if_pos rfl, jn_X3_goesOn_103, lt_eq, if_neg (by decide), if_pos rfl, e5, l_7, if_pos (Int32.le_refl _)]; rfl
    · refine ⟨up μ 32 0 6, ?_, FC_u (FC_r _) (by omega)⟩
      rw [G, if_neg c, jn_X3_goesOn_103, lt_eq, if_neg e, if_neg c]; rfl
theorem go8 {v : Int32} {N : Nat} {μ : Mem} (hN : N ≤ 7) (h : μ 32 0 = nI 8) (h5 : μ 8 6 = nI N) : (v = 44 → N < 7 → f_X3_goesOn v 8 μ = some (nI 1, up μ 32 0 (nI 6))) ∧ ((v = 44 → N = 7) → ∃ μ', f_X3_goesOn v 8 μ = some (nI 0, μ') ∧ FC μ' μ) := by
  have e6 : up μ 32 0 6 8 6 = nI N := by rw [up_ne (by omega)]; exact h5
  have G : f_X3_goesOn v 8 μ = if v = 44 then (if 7 ≤ nI N then some (0, up μ 32 0 6) else some (1, up μ 32 0 6)) else some (0, up μ 32 0 6) := by
    rw [f_X3_goesOn, lt_eq, h, if_neg (by decide), if_neg (by decide), if_neg (by decide), if_neg (by decide), if_neg (by decide), if_neg (by decide), if_neg (by decide), if_neg (by decide), if_pos (by decide), lt_eq, e6]
  refine ⟨fun e hn => ?_, fun e => ⟨up μ 32 0 6, ?_, FC_u (FC_r _) (by omega)⟩⟩
  · rw [G, if_pos e, l_7, if_neg (by rw [q_le (by omega) (by omega)]; omega)]; rfl
  · rw [G]
    by_cases c : v = 44
    · rw [if_pos c, l_7, if_pos (by rw [q_le (by omega) (by omega)]; have := e c; omega)]; rfl
    · rw [if_neg c]; rfl
theorem bk_R {k i n p : Nat} {V : Nat → Int32} (hi : i + n ≤ 60) (hp : p + n ≤ 240) : ∀ (m t f f2 : Nat) (e : BD) (μ ν : Mem), e 0 1 + m = 7 → m < f2 → n - t + 3 < f → t ≤ n → WP e → 1 ≤ e 0 0 → BKc 8 μ e → DM ν e → μ 32 0 = nI (if e 0 1 = 0 then 5 else 8) → (e 0 1 = 0 → t < n → V t = 59 → e 0 0 = 7) → TX k i n V μ → TN p n V ν → ν 43 15 = nI (p + t) → BP n p (Lp k i n f t μ) (jR (nI (p + n)) f2 ν) μ ν := by
  intro m
  induction m with
  | zero =>
    intro t f f2 e μ ν hR hf2 hf ht w h0 hb hd h32 hx hX hN h15
    obtain ⟨f2, rfl⟩ : ∃ z, f2 = z + 1 := ⟨f2 - 1, by omega⟩
    obtain ⟨f, rfl⟩ : ∃ z, f = z + 1 := ⟨f - 1, by omega⟩
    have R7 : e 0 1 = 7 := by omega
    rw [if_neg (by omega)] at h32
    have d17 := hd.2.1
    have h6 := hb.2.1
    rw [R7] at d17 h6
    have J : jR (nI (p + n)) (f2 + 1) ν = jn_X5_readAll_169 (nI (p + n)) ν := by
      rw [jR, lp_X5_readAll_105, d17, if_neg (by decide), l_7, if_pos (Int32.le_refl _)]; rfl
    rw [J, jn_X5_readAll_169, h15]
    by_cases c : t < n
    · obtain ⟨μ', g1, g2⟩ := (go8 (v := V t) (Nat.le_refl 7) h32 h6).2 (fun _ => rfl)
      refine .inl ⟨t, μ', ν, ht, .inl ?_, ?_, h15, g2, FM_r _⟩
      · rw [Lp_s hi c hX, g1, b2_some, if_pos (e00 ▸ trivial)]
      · rw [if_neg (by rw [q_eq (by omega) (by omega)]; omega)]; rfl
    · have tn : t = n := by omega
      subst tn
      refine .inr ⟨e, μ, ν, Lp_e, h32, ?_, w, h0, by omega, hb, hd, FC_r _, FM_r _⟩
      rw [if_pos rfl]; rfl
  | succ m ih =>
    intro t f f2 e μ ν hR hf2 hf ht w h0 hb hd h32 hx hX hN h15
    obtain ⟨f2, rfl⟩ : ∃ z, f2 = z + 1 := ⟨f2 - 1, by omega⟩
    obtain ⟨f, rfl⟩ : ∃ z, f = z + 1 := ⟨f - 1, by omega⟩
    have w1 := w.1
    have S := m_isS (x := 44) (V := V) hp ht h15 (fun c => hN t c)
    -- the comma, then a sentence
    have comma : t < n → V t = 44 → lp_X5_readAll_105 (nI (p + n)) (f2 + 1) ν = jn_X5_readAll_129 (lp_X5_readAll_105 (nI (p + n)) f2) (nI (p + n)) ν → f_X3_goesOn (V t) 8 μ = some (nI 1, up μ 32 0 (nI 6)) → BP n p (Lp k i n (f + 1) t μ) (jR (nI (p + n)) (f2 + 1) ν) μ ν := by
      intro c cv J G
      rw [if_pos ⟨c, cv⟩] at S
      have F1 : FC (up μ 32 0 (nI 6)) μ := FC_u (FC_r _) (by omega)
      have M1 : FM (up ν 43 15 (nI (p + (t + 1)))) ν := FM_v (FM_r _) (by omega)
      have d17 : up ν 43 15 (nI (p + (t + 1))) 43 17 = nI (e 0 1) := by rw [up_ot (by omega)]; exact hd.2.1
      have L1 : Lp k i n (f + 1) t μ = Lp k i n f (t + 1) (up μ 32 0 (nI 6)) := by
        rw [Lp_s hi c hX, G, b2_some, if_neg (e10 ▸ not_false)]
      have J1 : lp_X5_readAll_105 (nI (p + n)) (f2 + 1) ν = b2 (f_X5_readSentence (nI (p + n)) (nI (7 + e 0 1)) (up ν 43 15 (nI (p + (t + 1))))) fun x16 μ15 => if x16 = 0 then some (.inr (0, μ15)) else lp_X5_readAll_105 (nI (p + n)) f2 (up μ15 43 17 (μ15 43 17 + 1)) := by
        rw [J, jn_X5_readAll_129, S, b2_some, if_neg (e10 ▸ not_false), d17, l_7, q_add]; rfl
      rw [L1]
      rcases bk_sen (k := k) (i := i) (n := n) (p := p) (t := t + 1) (f := f) (x := 7 + e 0 1) (N := e 0 1) (st0 := 6) (sl := 6) (c1 := 12) (c2 := 13) (st2 := 8) (V := V) (μ := up μ 32 0 (nI 6)) (ν := up ν 43 15 (nI (p + (t + 1)))) hi hp (by omega) (by omega) (by omega) (fun v μ a b => go6 (by omega) a b) (fun v μ a b => go7 (by omega) a b) (by omega) (by omega) (up_at _ _ _ _) (by rw [up_ne (by omega)]; exact hb.2.1) (TX_f hX F1) (up_at _ _ _ _) (TN_f hN M1) with ⟨t', μ', ν', a1, a2, a3, a4, a5, a6⟩ | ⟨g1, g2, f', a1, a2, a3, a4, a5, a6, a7⟩
      · refine .inl ⟨t', μ', ν', a1, a2, ?_, a4, FC_t a5 F1, FM_t a6 M1⟩
        rw [jR, J1, a3, b2_some, if_pos (e00 ▸ trivial)]; rfl
      · have d17' : up (up (up (up (up ν 43 15 (nI (p + (t + 1)))) 53 (7 + e 0 1) (nI g1)) 43 15 (nI (p + (t + 1 + 1)))) 54 (7 + e 0 1) (nI g2)) 43 15 (nI (p + (t + 1 + 2))) 43 17 = nI (e 0 1) := by simpa [up_if] using hd.2.1
        have JJ : jR (nI (p + n)) (f2 + 1) ν = jR (nI (p + n)) f2 (up (up (up (up (up (up ν 43 15 (nI (p + (t + 1)))) 53 (7 + e 0 1) (nI g1)) 43 15 (nI (p + (t + 1 + 1)))) 54 (7 + e 0 1) (nI g2)) 43 15 (nI (p + (t + 1 + 2)))) 43 17 (nI (e 0 1 + 1))) := by
          rw [jR, J1, a7, b2_some, if_neg (e10 ▸ not_false), d17', show (1 : Int32) = nI 1 from rfl, q_add]; rfl
        rw [a6, JJ]
        have e1 : (eR e g1 g2) 0 1 = e 0 1 + 1 := by simp [eR]
        have e0 : (eR e g1 g2) 0 0 = e 0 0 := by simp [eR]
        have FF : FC (up (up (up (up (up (up μ 32 0 (nI 6)) 32 0 (nI (6 + 1))) 12 (e 0 1) (nI g1)) 32 0 (nI 8)) 13 (e 0 1) (nI g2)) 8 6 (nI (e 0 1 + 1))) μ := FC_u (FC_u (FC_u (FC_u (FC_u F1 (by omega)) (by omega)) (by omega)) (by omega)) (by omega)
        have MM : FM (up (up (up (up (up (up ν 43 15 (nI (p + (t + 1)))) 53 (7 + e 0 1) (nI g1)) 43 15 (nI (p + (t + 1 + 1)))) 54 (7 + e 0 1) (nI g2)) 43 15 (nI (p + (t + 1 + 2)))) 43 17 (nI (e 0 1 + 1))) ν := FM_v (FM_v (FM_u (FM_v (FM_u M1 (by omega)) (by omega)) (by omega)) (by omega)) (by omega)
        refine BP_t (ih (t + 1 + 2) f' f2 (eR e g1 g2) _ _ (by omega) (by omega) (by omega) (by omega) (WP_R w (by omega) a2 a3) (by omega) (BK_R hb) (DM_R w hd) ?_ (fun z => by omega) (TX_f hX FF) (TN_f hN MM) ?_) FF MM
        · rw [if_neg (by omega)]; simp [up_if]
        · simp [up_if]
    by_cases c : t < n
    · by_cases cv : V t = 44
      · by_cases z : e 0 1 = 0
        · rw [if_pos z] at h32
          exact comma c cv (by rw [lp_X5_readAll_105, hd.2.1, z, if_pos (by decide)]) ((go5 w.1 h32 hb.1).1 cv)
        · rw [if_neg z] at h32
          refine comma c cv ?_ ((go8 w.2.1 h32 hb.2.1).1 cv (by omega))
          rw [lp_X5_readAll_105, hd.2.1, if_neg (show ¬ nI (e 0 1) = 0 from nz (by omega) (by omega)), l_7, if_neg (by rw [q_le (by omega) (by omega)]; omega), h15, if_neg (by rw [q_le (by omega) (by omega)]; omega)]
      · rw [if_neg (fun q => cv q.2)] at S
        have CG : ∃ μ', f_X3_goesOn (V t) 8 μ = some (nI 0, μ') ∧ FC μ' μ := by
          by_cases z : e 0 1 = 0
          · rw [if_pos z] at h32
            exact (go5 w.1 h32 hb.1).2.2 cv (hx z c)
          · rw [if_neg z] at h32
            exact (go8 w.2.1 h32 hb.2.1).2 (fun q => absurd q cv)
        obtain ⟨μ', g1, g2⟩ := CG
        refine .inl ⟨t, μ', ν, ht, .inl ?_, ?_, h15, g2, FM_r _⟩
        · rw [Lp_s hi c hX, g1, b2_some, if_pos (e00 ▸ trivial)]
        · have J : lp_X5_readAll_105 (nI (p + n)) (f2 + 1) ν = jn_X5_readAll_129 (lp_X5_readAll_105 (nI (p + n)) f2) (nI (p + n)) ν := by
            by_cases z : e 0 1 = 0
            · rw [lp_X5_readAll_105, hd.2.1, z, if_pos (by decide)]
            · rw [lp_X5_readAll_105, hd.2.1, if_neg (show ¬ nI (e 0 1) = 0 from nz (by omega) (by omega)), l_7, if_neg (by rw [q_le (by omega) (by omega)]; omega), h15, if_neg (by rw [q_le (by omega) (by omega)]; omega)]
          rw [jR, J, jn_X5_readAll_129, S, b2_some, if_pos (e00 ▸ trivial)]; rfl
    · have tn : t = n := by omega
      subst tn
      rw [if_neg (fun q => c q.1)] at S
      by_cases z : e 0 1 = 0
      · rw [if_pos z] at h32
        refine .inl ⟨t, μ, ν, ht, .inr ⟨rfl, Lp_e, 5, by omega, h32⟩, ?_, h15, FC_r _, FM_r _⟩
        rw [jR, lp_X5_readAll_105, hd.2.1, z, if_pos (by decide), jn_X5_readAll_129, S, b2_some, if_pos (e00 ▸ trivial)]; rfl
      · rw [if_neg z] at h32
        refine .inr ⟨e, μ, ν, Lp_e, h32, ?_, w, h0, by omega, hb, hd, FC_r _, FM_r _⟩
        rw [jR, lp_X5_readAll_105, hd.2.1, if_neg (show ¬ nI (e 0 1) = 0 from nz (by omega) (by omega)), l_7, if_neg (by rw [q_le (by omega) (by omega)]; omega), h15, if_pos (Int32.le_refl _), s1_inl, jn_X5_readAll_169, h15, if_pos rfl]; rfl
