theorem c_aon {μ : Mem} {d : BD} (h : Iv μ d) : ∃ μ', f_X4_alignmentOfNow μ = some μ' ∧ Iv μ' d ∧ AR 14 μ' d ∧ (∀ c, c ≠ 0 → c < 14 ∨ 22 < c → μ' c = μ c) ∧ (∀ i, i ≠ 9 → μ' 0 i = μ 0 i) := by
  have hI := h
  obtain ⟨h1, h2, h3, h4, h5, h6⟩ := h
  rcases h4 with h4 | ⟨h4, h4'⟩
  · obtain ⟨μ', e, f, a⟩ := c_align (al := 14) (bq := 2) (.inl rfl) (.inl rfl) h1 h2
    have g : ∀ c, c ≠ 0 → c < 14 ∨ 22 < c → up μ' 0 9 1 c = μ c := fun c hc hc2 => by rw [up_ne hc]; exact f c (by omega)
    have g0 : ∀ i, i ≠ 9 → up μ' 0 9 1 0 i = μ 0 i := fun i hi => by rw [up_ot hi, f 0 (by omega)]
    have ga : AR 14 (up μ' 0 9 1) d := AR_fr a (fun c hc _ => up_ne (by omega))
    refine ⟨up μ' 0 9 1, ?_, ⟨h1, BKc_fr h2 (g _ (by omega) (by omega)) (g _ (by omega) (by omega)) (g _ (by omega) (by omega)) (g _ (by omega) (by omega)) (g _ (by omega) (by omega)) (g _ (by omega) (by omega)), BKm_fr h3 (fun i _ _ => by rw [g 43 (by omega) (by omega)]) (fun c _ _ => g c (by omega) (by omega)), .inr ⟨up_at _ _ _ _, ga⟩, fun k hk => RS_fr (h5 k hk) (g _ (by omega) (by omega)) (g _ (by omega) (by omega)) (by rw [g 44 (by omega) (by omega)]) (by rw [g 45 (by omega) (by omega)]) (fun j hj => by rw [g 46 (by omega) (by omega)]), RD_fr h6 (g0 8 (by omega)) (by rw [g 43 (by omega) (by omega)]) (fun c hc => g c (by omega) (by omega))⟩, ga, g, g0⟩
    simp only [f_X4_alignmentOfNow, h4, e00, if_true, e, b1_some, lt_eq]
  · refine ⟨μ, ?_, hI, h4', fun _ _ _ => rfl, fun _ _ => rfl⟩
    simp only [f_X4_alignmentOfNow, h4, e10, if_false]
theorem Iv_fb {μ μ' : Mem} {d : BD} (h : Iv μ d) (h1 : ∀ c, c ≠ 43 → c < 55 ∨ 60 < c → μ' c = μ c) (h2 : ∀ i, i ≠ 24 → μ' 43 i = μ 43 i) : Iv μ' d :=
  Iv_fr h (fun c hc => h1 c (by unfold Kp at hc; omega) (by unfold Kp at hc; omega)) ⟨by rw [h1 0 (by omega) (by omega)], by rw [h1 0 (by omega) (by omega)]⟩ (fun i hi => h2 i (by omega))
theorem m_fbI {μ : Mem} {d : BD} (h : Iv μ d) : ∃ μ', f_X5_findBest μ = some (orN (VV d (d 0 4) 0 0).1, μ') ∧ Iv μ' d ∧ MB μ' d ∧ (∀ c, c ≠ 43 → c < 55 ∨ 60 < c → μ' c = μ c) ∧ (∀ i, i ≠ 24 → μ' 43 i = μ 43 i) := by
  obtain ⟨μ', e, f1, f2, f3⟩ := m_findBest h.1 h.2.2.1
  exact ⟨μ', e, Iv_fb h f1 f2, f3, f1, f2⟩
theorem Inv_ab {μ μ1 μ2 : Mem} {d : BD} (ht : μ 0 10 = μ 43 1) (hf : μ 0 11 = μ 43 0) (a1 : ∀ c, c ≠ 0 → c < 14 ∨ 22 < c → μ1 c = μ c) (a2 : ∀ i, i ≠ 9 → μ1 0 i = μ 0 i) (hI : Iv μ2 d) (b1 : ∀ c, c ≠ 43 → c < 55 ∨ 60 < c → μ2 c = μ1 c) (b2 : ∀ i, i ≠ 24 → μ2 43 i = μ1 43 i) : Inv μ2 := by
  refine ⟨⟨d, hI⟩, ?_, ?_⟩
  · rw [b1 0 (by omega) (by omega), a2 _ (by omega), b2 _ (by omega), a1 43 (by omega) (by omega), ht]
  · rw [b1 0 (by omega) (by omega), a2 _ (by omega), b2 _ (by omega), a1 43 (by omega) (by omega), hf]
theorem orN_n9 {x : Nat} (h : x ≤ 1000000) : (orN x = -9) = (x = 1000000) := by
  unfold orN
  by_cases c : x < 1000000
  · rw [if_pos c, q_n9 (by omega)]
    exact (eq_false (by omega)).symm
  · rw [if_neg c]
    exact propext ⟨fun _ => by omega, fun _ => rfl⟩
theorem VV_g0 {d : BD} (w : WFd d) : Gd (VV d (d 0 4) 0 0) (d 0 0 + d 0 1) (3 ^ (d 0 0 + d 0 1)) := VV_Gd w _ 0 0 (by omega) (by omega) (by omega)
/-! what `best` answers -/
def bestV (d : BD) (n : Nat) (v : Int32) : Prop := match n with
  | 0 => v = orN (VV d (d 0 4) 0 0).1
  | 1 => ((VV d (d 0 4) 0 0).1 < 1000000 ∧ ∃ K, PTH d (d 0 4) K ∧ v = nI K) ∨ (¬ (VV d (d 0 4) 0 0).1 < 1000000 ∧ v = -9)
  | 2 => v = orN (VV d (d 0 4) 0 0).2.1
  | _ => v = nI (VV d (d 0 4) 0 0).2.2.1
theorem bestV_one {d : BD} {n : Nat} {v v' : Int32} (h : bestV d n v) (h' : bestV d n v') : v = v' := by
  rcases (show n = 0 ∨ n = 1 ∨ n = 2 ∨ 3 ≤ n by omega) with rfl | rfl | rfl | hn
  · exact Eq.trans (show v = orN (VV d (d 0 4) 0 0).1 from h) (Eq.symm (show v' = orN (VV d (d 0 4) 0 0).1 from h'))
  · rcases h with ⟨a, K, b, c⟩ | ⟨a, c⟩ <;> rcases h' with ⟨a', K', b', c'⟩ | ⟨a', c'⟩
    · rw [c, c', PTH_one b b']
    · exact absurd a a'
    · exact absurd a' a
    · rw [c, c']
  · exact Eq.trans (show v = orN (VV d (d 0 4) 0 0).2.1 from h) (Eq.symm (show v' = orN (VV d (d 0 4) 0 0).2.1 from h'))
  · obtain ⟨m, rfl⟩ : ∃ m, n = m + 3 := ⟨n - 3, by omega⟩
    exact Eq.trans (show v = nI (VV d (d 0 4) 0 0).2.2.1 from h) (Eq.symm (show v' = nI (VV d (d 0 4) 0 0).2.2.1 from h'))
theorem ck64 {R : Type} (x : Option R) : ck (inb (0 : Int32) 64) x = x := by rw [l_0, q_ck (by omega) (by omega)]
theorem tn0 : (0 : Int32).toNatClampNeg = 0 := by decide
theorem PTH_pos {d : BD} {w K : Nat} (h : PTH d w K) (h0 : d 0 0 ≠ 0) : 0 < K := by
  by_cases e : K = 0
  · subst e
    exact absurd h.1.1.symm h0
  · omega
theorem c_answer {al n : Nat} {μ : Mem} {d : BD} (h : AR al μ d) (w : WFd d) (h0 : d 0 0 ≠ 0) (hn : n < 4) : ∃ v, f_X0_answer al (nI n) μ = some (v, μ) ∧ bestV d n v := by
  obtain ⟨h1, h2, h3, h4, h5⟩ := h
  have g := VV_g0 w
  have r := VV_rng (w := d 0 4) w (Nat.zero_le (d 0 0)) (Nat.zero_le (d 0 1))
  unfold PA at h5
  rcases (show n = 0 ∨ n = 1 ∨ n = 2 ∨ n = 3 by omega) with rfl | rfl | rfl | rfl
  · refine ⟨_, ?_, rfl⟩
    unfold f_X0_answer
    rw [if_pos l_0.symm, ck64, tn0, h2, c_orNone (by rcases r.1 with z | z <;> omega)]; rfl
  · rcases h5 with ⟨a, K, b, k14, c, _⟩ | ⟨a, c⟩
    · refine ⟨nI K, ?_, .inl ⟨a, K, b, rfl⟩⟩
      have := PTH_pos b h0
      unfold f_X0_answer
      rw [if_neg (by decide), if_pos l_1.symm, c, l_0, if_neg (show ¬ nI K ≤ nI 0 by rw [q_le (by omega) (by omega)]; omega)]
    · refine ⟨-9, ?_, .inr ⟨a, rfl⟩⟩
      unfold f_X0_answer
      rw [if_neg (by decide), if_pos l_1.symm, c, if_pos (by decide)]
  · refine ⟨_, ?_, rfl⟩
    unfold f_X0_answer
    rw [if_neg (by decide), if_neg (by decide), if_pos l_2.symm, ck64, tn0, h3, c_orNone (by rcases r.2.1 with z | z <;> omega)]; rfl
  · refine ⟨_, ?_, rfl⟩
    unfold f_X0_answer
    rw [if_neg (by decide), if_neg (by decide), if_neg (by decide), ck64, tn0, h4]
def tb (n : Nat) : Nat := if n = 0 then 0 else n + 1
theorem m_tellBest {n : Nat} {μ : Mem} {d : BD} (hm : BKm μ d) (w : WFd d) (hn : n < 4) : ∃ v μ', f_X5_tellBest (nI (tb n)) μ = some (v, μ') ∧ bestV d n v ∧ (∀ c, c ≠ 43 → c < 55 ∨ 60 < c → μ' c = μ c) ∧ (∀ i, i ≠ 24 → μ' 43 i = μ 43 i) := by
  obtain ⟨μ', e, f1, f2, f3⟩ := m_findBest w hm
  obtain ⟨h1, h2, h3, h5⟩ := f3
  have g := VV_g0 w
  have r := VV_rng (w := d 0 4) w (Nat.zero_le (d 0 0)) (Nat.zero_le (d 0 1))
  unfold Gd at g
  unfold PA at h5
  unfold bestV
  revert e h2 h3 h5 g r
  generalize VV d (d 0 4) 0 0 = Q
  obtain ⟨L, N, A, F⟩ := Q
  intro e h2 h3 h5 g r
  simp only at e h2 h3 h5 g r ⊢
  have hL : L ≤ 1000000 := by rcases r.1 with z | z <;> omega
  have hN : N ≤ 1000000 := by rcases r.2.1 with z | z <;> omega
  have o9 := orN_n9 hL
  have e9 : (99999 : Int32) = nI 99999 := rfl
  rcases (show n = 0 ∨ n = 1 ∨ n = 2 ∨ n = 3 by omega) with rfl | rfl | rfl | rfl
  · refine ⟨orN L, μ', ?_, rfl, f1, f2⟩
    simp only [f_X5_tellBest, e, b2_some]
    rw [if_neg (by decide)]
    by_cases c : L = 1000000
    · rw [if_pos (o9 ▸ c), show orN L = -9 from o9 ▸ c]
    · rw [if_neg (o9 ▸ c), if_neg (by decide)]
      rfl
  · by_cases c : L = 1000000
    · refine ⟨-9, μ', ?_, .inr ⟨by omega, rfl⟩, f1, f2⟩
      simp only [f_X5_tellBest, e, b2_some]
      rw [if_neg (by decide), if_pos (o9 ▸ c)]
    · rcases h5 with ⟨a, K, b, k14, c', _⟩ | ⟨a, _⟩
      · refine ⟨nI K, μ', ?_, .inl ⟨a, K, b, rfl⟩, f1, f2⟩
        simp only [f_X5_tellBest, e, b2_some]
        rw [if_neg (by decide), if_neg (o9 ▸ c), if_neg (by decide), jn_X5_tellBest_52, if_neg (by decide), if_pos (by decide), c']
      · omega
  · refine ⟨orN N, μ', ?_, rfl, f1, f2⟩
    simp only [f_X5_tellBest, e, b2_some]
    rw [if_neg (by decide)]
    by_cases c : L = 1000000
    · have q1 := w.1
      have q2 := w.2.1
      have : N = 1000000 := by omega
      rw [if_pos (o9 ▸ c), show orN N = -9 from (orN_n9 hN) ▸ this]
    · rw [if_neg (o9 ▸ c), if_pos (by decide), ck64, tn0, h2, e9]
      by_cases cn : N = 1000000
      · subst cn
        rw [if_neg (by decide), show orN 1000000 = -9 from (orN_n9 (Nat.le_refl _)) ▸ rfl]
      · have r2 := r.2.1.resolve_left cn
        have : mo N = N := by unfold mo; rw [if_neg cn]
        rw [this, if_pos (show nI N < nI 99999 by rw [q_lt (by omega) (by omega)]; omega), jn_X5_tellBest_52, if_neg (by decide), if_neg (by decide), ck64, tn0, h2, this, orN, if_pos (by omega)]
  · refine ⟨nI A, μ', ?_, rfl, f1, f2⟩
    simp only [f_X5_tellBest, e, b2_some]
    rw [if_pos (by decide)]
    by_cases c : L = 1000000
    · have q1 := w.1
      have q2 := w.2.1
      have : A = 0 := by omega
      rw [if_pos (o9 ▸ c), this]; rfl
    · rw [if_neg (o9 ▸ c), ck64, tn0, h3]
theorem t_best (x : Int32) (μ : Mem) (h : Inv μ) : ∃ (r : Int32) (μ1 μ2 : Mem), f_X4_best x μ = some (r, μ1) ∧ f_X5_best x μ1 = some (r, μ2) ∧ Inv μ2 := by
  have hI' := h
  obtain ⟨⟨d, hI⟩, ht, hf⟩ := h
  have w := hI.1
  have hm := hI.2.2.1
  have hb := hI.2.1
  have w1 := w.1
  rcases ix7 (x := x) (n := 4) (by omega) with hx | ⟨n, hn, rfl⟩
  · refine ⟨-2, μ, μ, ?_, ?_, hI'⟩
    · unfold f_X4_best
      rcases hx with hx | hx
      · rw [if_pos hx]
      · rw [if_neg (nn_of hx (by omega)), if_neg (Int32.not_le.mpr (by rw [l_3, le_succ (by omega)]; exact hx))]
    · have := wi_n (x := x) (lo := 0) (hi := 3) (μ := μ) (by rw [l_3, le_succ (by omega)]; exact hx)
      simp only [f_X5_best, this, b2_some, e00, if_true]
  · have z0 : ∀ ν : Mem, f_X5_within (nI n) 0 3 ν = some (nI 1, ν) := fun ν => by rw [l_0, l_3, wi_j (by omega) (by omega) (by omega)]
    have z1 : nI n ≤ 3 := by rw [l_3, q_le (by omega) (by omega)]; omega
    by_cases h0 : d 0 0 = 0
    · have a1 := hb.1
      have a2 := hm.1
      rw [h0] at a1 a2
      refine ⟨-3, μ, μ, ?_, ?_, hI'⟩
      · simp only [f_X4_best, nI_pos (show n < 2147483648 by omega), z1, if_false, if_true, th_n a1, b2_some, e00]
      · simp only [f_X5_best, z0, b2_some, e10, if_false, a2, e00, if_true]
    · have n0 : ¬ nI (d 0 0) = 0 := nz (by omega) (by omega)
      obtain ⟨μ1, a0, a1, a2, a3, a4⟩ := c_aon hI
      obtain ⟨v, k1, k2⟩ := c_answer a2 w h0 hn
      obtain ⟨v', μ2, c1, c2, c3, c4⟩ := m_tellBest a1.2.2.1 w hn
      have : v' = v := bestV_one c2 k2
      subst this
      refine ⟨v', μ1, μ2, ?_, ?_, Inv_ab ht hf a3 a4 (Iv_fb a1 c3 c4) c3 c4⟩
      · simp only [f_X4_best, nI_pos (show n < 2147483648 by omega), z1, if_false, if_true, th_y hb.1 (by omega) w1, b2_some, e10, a0, b1_some, k1]
      · simp only [f_X5_best, z0, b2_some, e10, if_false, a1.2.2.1.1, n0]
        rcases (show n = 0 ∨ n = 1 ∨ n = 2 ∨ n = 3 by omega) with rfl | rfl | rfl | rfl
        · rw [if_neg (by decide), if_neg (by decide), if_neg (by decide)]
          exact (congrArg (fun z => b2 z fun x4 μ3 => some (x4, μ3)) c1)
        · rw [if_pos (by decide)]
          exact (congrArg (fun z => b2 z fun x4 μ3 => some (x4, μ3)) c1)
        · rw [if_neg (by decide), if_pos (by decide)]
          exact (congrArg (fun z => b2 z fun x4 μ3 => some (x4, μ3)) c1)
        · rw [if_neg (by decide), if_neg (by decide), if_pos (by decide)]
          exact (congrArg (fun z => b2 z fun x4 μ3 => some (x4, μ3)) c1)
