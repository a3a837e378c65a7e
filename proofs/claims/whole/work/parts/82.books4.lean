theorem m_rk {p t n L : Nat} {V : Nat → Int32} {ν : Mem} (hp : p + n ≤ 240) (ht : t ≤ n) (hL : L < 7) (h15 : ν 43 15 = nI (p + t)) (h16 : ν 43 16 = nI L) (hV : t < n → ν 46 (p + t) = V t) : (∀ g, t < n → knd (V t) g → f_X5_readKindNext (nI (p + n)) ν = some (nI 1, up (up ν 52 L (nI g)) 43 15 (nI (p + (t + 1))))) ∧ ((t < n → V t ≠ 80 ∧ V t ≠ 76 ∧ V t ≠ 68) → f_X5_readKindNext (nI (p + n)) ν = some (nI 0, up ν 52 L (-9))) := by
  have u16 : ∀ z, up ν 52 L z 43 16 = nI L := fun z => by rw [up_ne (by omega)]; exact h16
  have u15 : ∀ z, up ν 52 L z 43 15 = nI (p + t) := fun z => by rw [up_ne (by omega)]; exact h15
  have bad : ∀ v : Int32, v ≠ 80 → v ≠ 76 → v ≠ 68 → jn_X5_readKindNext_21 v ν = some (nI 0, up ν 52 L (-9)) := by
    intro v a b c
    rw [jn_X5_readKindNext_21, if_neg a, if_neg b, if_neg c, h16, q_ck hL (by omega), lt_eq, q_cl (by omega), u16, q_ck hL (by omega), q_cl (by omega), up_at, if_pos rfl]; rfl
  refine ⟨fun g c e => ?_, fun h => ?_⟩
  · have g3 : g < 3 := by rcases e with ⟨_, rfl⟩ | ⟨_, rfl⟩ | ⟨_, rfl⟩ <;> omega
    rw [f_X5_readKindNext, h15, if_neg (by rw [q_le (by omega) (by omega)]; omega), q_ck (by omega) (by omega), q_cl (by omega), hV c]
    have n9 : ¬ nI g = -9 := by rw [q_n9 (by omega)]; exact not_false
    have at' : ∀ z : Int32, up ν 52 L z 52 L = z := fun z => up_at _ _ _ _
    rcases e with ⟨e, rfl⟩ | ⟨e, rfl⟩ | ⟨e, rfl⟩
    · rw [e, jn_X5_readKindNext_21, if_pos rfl, h16, q_ck hL (by omega), lt_eq, q_cl (by omega), u16, q_ck hL (by omega), q_cl (by omega), at', if_neg (by decide), lt_eq, u15, l_1, q_add]; rfl
    · rw [e, jn_X5_readKindNext_21, if_neg (by decide), if_pos rfl, h16, q_ck hL (by omega), lt_eq, q_cl (by omega), u16, q_ck hL (by omega), q_cl (by omega), at', if_neg (by decide), lt_eq, u15, l_1, q_add]; rfl
    · rw [e, jn_X5_readKindNext_21, if_neg (by decide), if_neg (by decide), if_pos rfl, h16, q_ck hL (by omega), lt_eq, q_cl (by omega), u16, q_ck hL (by omega), q_cl (by omega), at', if_neg (by decide), lt_eq, u15, l_1, q_add]; rfl
  · rw [f_X5_readKindNext, h15]
    by_cases c : t < n
    · obtain ⟨a1, a2, a3⟩ := h c
      rw [if_neg (by rw [q_le (by omega) (by omega)]; omega), q_ck (by omega) (by omega), q_cl (by omega), hV c]
      exact bad _ a1 a2 a3
    · rw [if_pos (by rw [q_le (by omega) (by omega)]; omega)]
      exact bad _ (by decide) (by decide) (by decide)
def jL (E : Int32) (f : Nat) (ν : Mem) : Option (Int32 × Mem) := s1 (lp_X5_readAll_22 E f ν) (fun μ12 => jn_X5_readAll_105 E μ12) (fun o => some o)
theorem go1 {v : Int32} {μ : Mem} (h : μ 32 0 = nI 1) : (v = 59 → f_X3_goesOn v 8 μ = some (nI 1, up μ 32 0 (nI 2))) ∧ (v ≠ 59 → f_X3_goesOn v 8 μ = some (nI 0, up μ 32 0 (nI 2))) := by
  have G : f_X3_goesOn v 8 μ = if v = 59 then some (1, up μ 32 0 2) else some (0, up μ 32 0 2) := by
    rw [f_X3_goesOn, lt_eq, h, if_neg (by decide), if_pos (by decide), lt_eq]
  exact ⟨fun e => by rw [G, if_pos e]; rfl, fun e => by rw [G, if_neg e]; rfl⟩
theorem bk_L {k i n p : Nat} {V : Nat → Int32} (hi : i + n ≤ 60) (hp : p + n ≤ 240) : ∀ (m t f f2 : Nat) (e : BD) (μ ν : Mem), e 0 0 + m = 7 → m < f2 → n - t + 4 < f → t ≤ n → WP e → e 0 1 = 0 → BKc 8 μ e → DM ν e → μ 32 0 = nI (if e 0 0 = 0 then 1 else 5) → TX k i n V μ → TN p n V ν → ν 43 15 = nI (p + t) → BP n p (Lp k i n f t μ) (jL (nI (p + n)) f2 ν) μ ν := by
  intro m
  induction m with
  | zero =>
    intro t f f2 e μ ν hR hf2 hf ht w h0 hb hd h32 hX hN h15
    obtain ⟨f2, rfl⟩ : ∃ z, f2 = z + 1 := ⟨f2 - 1, by omega⟩
    have L7 : e 0 0 = 7 := by omega
    rw [if_neg (by omega)] at h32
    have J : jL (nI (p + n)) (f2 + 1) ν = jR (nI (p + n)) FU ν := by
      rw [jL, lp_X5_readAll_22, hd.1, L7, if_neg (by decide), l_7, if_pos (Int32.le_refl _)]; rfl
    rw [J]
    exact bk_R hi hp 7 t f FU e μ ν (by omega) (by unfold FU; omega) (by omega) ht w (by omega) hb hd (by rw [if_pos h0]; exact h32) (fun _ _ _ => L7) hX hN h15
  | succ m ih =>
    intro t f f2 e μ ν hR hf2 hf ht w h0 hb hd h32 hX hN h15
    obtain ⟨f2, rfl⟩ : ∃ z, f2 = z + 1 := ⟨f2 - 1, by omega⟩
    obtain ⟨f, rfl⟩ : ∃ z, f = z + 1 := ⟨f - 1, by omega⟩
    have S := m_isS (x := 59) (V := V) hp ht h15 (fun c => hN t c)
    have semi : t < n → V t = 59 → lp_X5_readAll_22 (nI (p + n)) (f2 + 1) ν = jn_X5_readAll_60 (lp_X5_readAll_22 (nI (p + n)) f2) (nI (p + n)) ν → f_X3_goesOn (V t) 8 μ = some (nI 1, up μ 32 0 (nI 2)) → BP n p (Lp k i n (f + 1) t μ) (jL (nI (p + n)) (f2 + 1) ν) μ ν := by
      intro c cv J G
      rw [if_pos ⟨c, cv⟩] at S
      have F1 : FC (up μ 32 0 (nI 2)) μ := FC_u (FC_r _) (by omega)
      have M1 : FM (up ν 43 15 (nI (p + (t + 1)))) ν := FM_v (FM_r _) (by omega)
      have d16 : up ν 43 15 (nI (p + (t + 1))) 43 16 = nI (e 0 0) := by rw [up_ot (by omega)]; exact hd.1
      have L1 : Lp k i n (f + 1) t μ = Lp k i n f (t + 1) (up μ 32 0 (nI 2)) := by
        rw [Lp_s hi c hX, G, b2_some, if_neg (e10 ▸ not_false)]
      have J1 : lp_X5_readAll_22 (nI (p + n)) (f2 + 1) ν = b2 (f_X5_readKindNext (nI (p + n)) (up ν 43 15 (nI (p + (t + 1))))) fun x8 μ7 => if x8 = 0 then some (.inr (0, μ7)) else b2 (f_X5_readSentence (nI (p + n)) (μ7 43 16) μ7) fun x10 μ9 => if x10 = 0 then some (.inr (0, μ9)) else lp_X5_readAll_22 (nI (p + n)) f2 (up μ9 43 16 (μ9 43 16 + 1)) := by
        rw [J, jn_X5_readAll_60, S, b2_some, if_neg (e10 ▸ not_false)]; rfl
      have K := m_rk (V := V) (t := t + 1) (L := e 0 0) hp (by omega) (by omega) (up_at ν 43 15 (nI (p + (t + 1)))) d16 (fun c' => TN_f hN M1 (t + 1) c')
      have h5' : up μ 32 0 (nI 2) 8 5 = nI (e 0 0) := by rw [up_ne (by omega)]; exact hb.1
      obtain ⟨f, rfl⟩ : ∃ z, f = z + 1 := ⟨f - 1, by omega⟩
      rw [L1]
      by_cases hk : t + 1 < n ∧ ∃ g, knd (V (t + 1)) g
      · obtain ⟨c', kd, hkd⟩ := hk
        have kd3 : kd < 3 := by rcases hkd with ⟨_, rfl⟩ | ⟨_, rfl⟩ | ⟨_, rfl⟩ <;> omega
        have K1 := K.1 kd c' hkd
        have L2 : Lp k i n (f + 1) (t + 1) (up μ 32 0 (nI 2)) = Lp k i n f (t + 2) (up (up (up μ 32 0 (nI 2)) 32 0 (nI 3)) 9 (e 0 0) (nI kd)) := by
          rw [Lp_s hi c' (TX_f hX F1), (go2 (by omega) (up_at _ _ _ _) h5').1 kd hkd, b2_some, if_neg (e10 ▸ not_false)]
        have F2 : FC (up (up (up μ 32 0 (nI 2)) 32 0 (nI 3)) 9 (e 0 0) (nI kd)) μ := FC_u (FC_u F1 (by omega)) (by omega)
        have M2 : FM (up (up (up ν 43 15 (nI (p + (t + 1)))) 52 (e 0 0) (nI kd)) 43 15 (nI (p + (t + 1 + 1)))) ν := FM_v (FM_u M1 (by omega)) (by omega)
        have d16' : up (up (up ν 43 15 (nI (p + (t + 1)))) 52 (e 0 0) (nI kd)) 43 15 (nI (p + (t + 1 + 1))) 43 16 = nI (e 0 0) := by simpa [up_if] using hd.1
        rw [L2]
        rcases bk_sen (k := k) (i := i) (n := n) (p := p) (t := t + 2) (f := f) (x := e 0 0) (N := e 0 0) (st0 := 3) (sl := 5) (c1 := 10) (c2 := 11) (st2 := 5) (V := V) (μ := up (up (up μ 32 0 (nI 2)) 32 0 (nI 3)) 9 (e 0 0) (nI kd)) (ν := up (up (up ν 43 15 (nI (p + (t + 1)))) 52 (e 0 0) (nI kd)) 43 15 (nI (p + (t + 1 + 1)))) hi hp (by omega) (by omega) (by omega) (fun v μ a b => go3 (by omega) a b) (fun v μ a b => go4 (by omega) a b) (by omega) (by omega) (by rw [up_ne (by omega), up_at]) (by rw [up_ne (by omega), up_ne (by omega)]; exact h5') (TX_f hX F2) (up_at _ _ _ _) (TN_f hN M2) with ⟨t', μ', ν', a1, a2, a3, a4, a5, a6⟩ | ⟨g1, g2, f', a1, a2, a3, a4, a5, a6, a7⟩
        · refine .inl ⟨t', μ', ν', a1, a2, ?_, a4, FC_t a5 F2, FM_t a6 M2⟩
          rw [jL, J1, K1, b2_some, if_neg (e10 ▸ not_false), d16', a3, b2_some, if_pos (e00 ▸ trivial)]; rfl
        · have d16'' : up (up (up (up (up (up (up ν 43 15 (nI (p + (t + 1)))) 52 (e 0 0) (nI kd)) 43 15 (nI (p + (t + 1 + 1)))) 53 (e 0 0) (nI g1)) 43 15 (nI (p + (t + 2 + 1)))) 54 (e 0 0) (nI g2)) 43 15 (nI (p + (t + 2 + 2))) 43 16 = nI (e 0 0) := by simpa [up_if] using hd.1
          have JJ : jL (nI (p + n)) (f2 + 1) ν = jL (nI (p + n)) f2 (up (up (up (up (up (up (up (up ν 43 15 (nI (p + (t + 1)))) 52 (e 0 0) (nI kd)) 43 15 (nI (p + (t + 1 + 1)))) 53 (e 0 0) (nI g1)) 43 15 (nI (p + (t + 2 + 1)))) 54 (e 0 0) (nI g2)) 43 15 (nI (p + (t + 2 + 2)))) 43 16 (nI (e 0 0 + 1))) := by
            rw [jL, J1, K1, b2_some, if_neg (e10 ▸ not_false), d16', a7, b2_some, if_neg (e10 ▸ not_false), d16'', show (1 : Int32) = nI 1 from rfl, q_add]; rfl
          rw [a6, JJ]
          have e1 : (eL e kd g1 g2) 0 1 = e 0 1 := by simp [eL]
          have e0 : (eL e kd g1 g2) 0 0 = e 0 0 + 1 := by simp [eL]
          have FF : FC (up (up (up (up (up (up (up (up μ 32 0 (nI 2)) 32 0 (nI 3)) 9 (e 0 0) (nI kd)) 32 0 (nI (3 + 1))) 10 (e 0 0) (nI g1)) 32 0 (nI 5)) 11 (e 0 0) (nI g2)) 8 5 (nI (e 0 0 + 1))) μ := FC_u (FC_u (FC_u (FC_u (FC_u F2 (by omega)) (by omega)) (by omega)) (by omega)) (by omega)
          have MM : FM (up (up (up (up (up (up (up (up ν 43 15 (nI (p + (t + 1)))) 52 (e 0 0) (nI kd)) 43 15 (nI (p + (t + 1 + 1)))) 53 (e 0 0) (nI g1)) 43 15 (nI (p + (t + 2 + 1)))) 54 (e 0 0) (nI g2)) 43 15 (nI (p + (t + 2 + 2)))) 43 16 (nI (e 0 0 + 1))) ν := FM_v (FM_v (FM_u (FM_v (FM_u M2 (by omega)) (by omega)) (by omega)) (by omega)) (by omega)
          refine BP_t (ih (t + 2 + 2) f' f2 (eL e kd g1 g2) _ _ (by omega) (by omega) (by omega) (by omega) (WP_L w (by omega) kd3 a2 a3) (by omega) (BK_L hb) (DM_L (by omega) hd) ?_ (TX_f hX FF) (TN_f hN MM) ?_) FF MM
          · rw [if_neg (by omega)]; simp [up_if]
          · simp [up_if]
      · have nk : t + 1 < n → V (t + 1) ≠ 80 ∧ V (t + 1) ≠ 76 ∧ V (t + 1) ≠ 68 := fun c' => ⟨fun z => hk ⟨c', 0, .inl ⟨z, rfl⟩⟩, fun z => hk ⟨c', 1, .inr (.inl ⟨z, rfl⟩)⟩, fun z => hk ⟨c', 2, .inr (.inr ⟨z, rfl⟩)⟩⟩
        have K2 := K.2 nk
        have MO : jL (nI (p + n)) (f2 + 1) ν = some (nI 0, up (up ν 43 15 (nI (p + (t + 1)))) 52 (e 0 0) (-9)) := by
          rw [jL, J1, K2, b2_some, if_pos (e00 ▸ trivial)]; rfl
        have M3 : FM (up (up ν 43 15 (nI (p + (t + 1)))) 52 (e 0 0) (-9)) ν := FM_u M1 (by omega)
        have h15' : up (up ν 43 15 (nI (p + (t + 1)))) 52 (e 0 0) (-9) 43 15 = nI (p + (t + 1)) := by rw [up_ne (by omega), up_at]
        by_cases c' : t + 1 < n
        · obtain ⟨μ', g1, g2⟩ := (go2 (v := V (t + 1)) (N := e 0 0) (by omega) (up_at μ 32 0 (nI 2)) h5').2 (nk c')
          refine .inl ⟨t + 1, μ', _, by omega, .inl ?_, MO, h15', FC_t g2 F1, M3⟩
          rw [Lp_s hi c' (TX_f hX F1), g1, b2_some, if_pos (e00 ▸ trivial)]
        · have tn : t + 1 = n := by omega
          exact .inl ⟨t + 1, _, _, by omega, .inr ⟨tn, by rw [tn]; exact Lp_e, 2, by omega, up_at _ _ _ _⟩, MO, h15', F1, M3⟩
    by_cases z : e 0 0 = 0
    · rw [if_pos z] at h32
      have J : lp_X5_readAll_22 (nI (p + n)) (f2 + 1) ν = jn_X5_readAll_60 (lp_X5_readAll_22 (nI (p + n)) f2) (nI (p + n)) ν := by rw [lp_X5_readAll_22, hd.1, z, if_pos (by decide)]
      by_cases c : t < n ∧ V t = 59
      · exact semi c.1 c.2 J ((go1 h32).1 c.2)
      · rw [if_neg c] at S
        have MO : jL (nI (p + n)) (f2 + 1) ν = some (nI 0, ν) := by rw [jL, J, jn_X5_readAll_60, S, b2_some, if_pos (e00 ▸ trivial)]; rfl
        by_cases c' : t < n
        · refine .inl ⟨t, _, ν, ht, .inl ?_, MO, h15, FC_u (i := 0) (v := nI 2) (FC_r μ) (.inr rfl), FM_r _⟩
          rw [Lp_s hi c' hX, (go1 h32).2 (fun q => c ⟨c', q⟩), b2_some, if_pos (e00 ▸ trivial)]
        · have tn : t = n := by omega
          exact .inl ⟨t, μ, ν, ht, .inr ⟨tn, by rw [tn]; exact Lp_e, 1, by omega, h32⟩, MO, h15, FC_r _, FM_r _⟩
    · rw [if_neg z] at h32
      have H : lp_X5_readAll_22 (nI (p + n)) (f2 + 1) ν = if nI (p + n) ≤ nI (p + t) then some (.inl ν) else ck (inb (nI (p + t)) 240) (if ν 46 (p + t) = 59 then jn_X5_readAll_60 (lp_X5_readAll_22 (nI (p + n)) f2) (nI (p + n)) ν else some (.inl ν)) := by
        have w1 := w.1
        rw [lp_X5_readAll_22, hd.1, if_neg (show ¬ nI (e 0 0) = 0 from nz (by omega) (by omega)), l_7, if_neg (by rw [q_le (by omega) (by omega)]; omega), h15, q_cl (by omega)]
      by_cases c : t < n ∧ V t = 59
      · refine semi c.1 c.2 ?_ ((go5 w.1 h32 hb.1).2.1 c.2 (by omega))
        rw [H, if_neg (by rw [q_le (by omega) (by omega)]; omega), q_ck (by omega) (by omega), hN t c.1, if_pos c.2]
      · have J : jL (nI (p + n)) (f2 + 1) ν = jR (nI (p + n)) FU ν := by
          have : lp_X5_readAll_22 (nI (p + n)) (f2 + 1) ν = some (.inl ν) := by
            rw [H]
            by_cases c' : t < n
            · rw [if_neg (by rw [q_le (by omega) (by omega)]; omega), q_ck (by omega) (by omega), hN t c', if_neg (fun q => c ⟨c', q⟩)]
            · rw [if_pos (by rw [q_le (by omega) (by omega)]; omega)]
          rw [jL, this]; rfl
        rw [J]
        exact bk_R hi hp 7 t (f + 1) FU e μ ν (by omega) (by unfold FU; omega) (by omega) ht w (by omega) hb hd (by rw [if_pos h0]; exact h32) (fun _ a b => absurd ⟨a, b⟩ c) hX hN h15
