theorem le_succ {n : Nat} {x : Int32} (h : n < 2147483647) : (nI n < x) = (nI (n + 1) ≤ x) := by
  apply propext
  rw [fa_lt, fa_le, nI_toInt (by omega), nI_toInt (by omega)]
  omega
def RS (μ : Mem) (k : Nat) : Prop := ((μ (35 + 2 * k) 1 = nI 0 ∧ μ 44 k = -9) ∨ (μ (35 + 2 * k) 1 = nI 1 ∧ ∃ l, l < 3 ∧ μ (35 + 2 * k) 2 = nI l ∧ μ 44 k = nI l)) ∧ (∃ n, n ≤ 60 ∧ μ (35 + 2 * k) 3 = nI n ∧ μ 45 k = nI n) ∧ ∀ j, j < 60 → μ 46 (60 * k + j) = μ (36 + 2 * k) j
def RD (μ : Mem) : Prop := ∃ rc, rc ≤ 8 ∧ μ 0 8 = nI rc ∧ μ 43 29 = nI rc ∧ ∀ k, k < rc → μ 33 k = μ 62 k ∧ μ 34 k = μ 63 k ∧ ∃ v, v ≤ 7 ∧ μ 33 k = nI v
def IA (μ : Mem) (d : BD) : Prop := μ 0 9 = nI 0 ∨ (μ 0 9 = nI 1 ∧ AR 14 μ d)
def Iv (μ : Mem) (d : BD) : Prop := WFd d ∧ BKc 2 μ d ∧ BKm μ d ∧ IA μ d ∧ (∀ k, k < 4 → RS μ k) ∧ RD μ
def Inv (μ : Mem) : Prop := (∃ d, Iv μ d) ∧ μ 0 10 = μ 43 1 ∧ μ 0 11 = μ 43 0
def Kp (c : Nat) : Prop := (2 ≤ c ∧ c ≤ 7) ∨ (14 ≤ c ∧ c ≤ 22) ∨ (33 ≤ c ∧ c ≤ 42) ∨ (44 ≤ c ∧ c ≤ 51) ∨ c = 62 ∨ c = 63
theorem AR_fr {al : Nat} {μ ν : Mem} {d : BD} (h : AR al μ d) (e : ∀ c, al ≤ c → c ≤ al + 8 → ν c = μ c) : AR al ν d := by
  unfold AR at *
  rw [e (al + 2) (by omega) (by omega), e (al + 3) (by omega) (by omega), e (al + 4) (by omega) (by omega), e al (by omega) (by omega)]
  refine ⟨PC_fr h.1 (e _ (by omega) (by omega)), h.2.1, h.2.2.1, h.2.2.2.1, ?_⟩
  have h5 := h.2.2.2.2
  unfold PA at *
  rw [e (al + 6) (by omega) (by omega), e (al + 7) (by omega) (by omega), e (al + 8) (by omega) (by omega)]
  exact h5
theorem IA_fr {μ ν : Mem} {d : BD} (h : IA μ d) (e : ∀ c, 14 ≤ c → c ≤ 22 → ν c = μ c) (e0 : ν 0 9 = μ 0 9) : IA ν d := by
  unfold IA at *
  rw [e0]
  rcases h with h | h
  · exact .inl h
  · exact .inr ⟨h.1, AR_fr h.2 (fun c h1 h2 => e c h1 (by omega))⟩
theorem RS_fr {μ ν : Mem} {k : Nat} (h : RS μ k) (e1 : ν (35 + 2 * k) = μ (35 + 2 * k)) (e2 : ν (36 + 2 * k) = μ (36 + 2 * k)) (e3 : ν 44 k = μ 44 k) (e4 : ν 45 k = μ 45 k) (e5 : ∀ j, j < 60 → ν 46 (60 * k + j) = μ 46 (60 * k + j)) : RS ν k := by
  unfold RS at *
  rw [e1, e2, e3, e4]
  refine ⟨h.1, h.2.1, fun j hj => ?_⟩
  rw [e5 j hj]
  exact h.2.2 j hj
theorem RD_fr {μ ν : Mem} (h : RD μ) (e0 : ν 0 8 = μ 0 8) (e1 : ν 43 29 = μ 43 29) (e2 : ∀ c, c = 33 ∨ c = 34 ∨ c = 62 ∨ c = 63 → ν c = μ c) : RD ν := by
  unfold RD at *
  rw [e0, e1, e2 33 (by omega), e2 34 (by omega), e2 62 (by omega), e2 63 (by omega)]
  exact h
theorem Iv_fr {μ ν : Mem} {d : BD} (h : Iv μ d) (e : ∀ c, Kp c → ν c = μ c) (e0 : ν 0 8 = μ 0 8 ∧ ν 0 9 = μ 0 9) (e1 : ∀ i, (5 ≤ i ∧ i ≤ 9) ∨ i = 29 → ν 43 i = μ 43 i) : Iv ν d := by
  obtain ⟨h1, h2, h3, h4, h5, h6⟩ := h
  unfold Kp at e
  refine ⟨h1, BKc_fr h2 (e _ (by omega)) (e _ (by omega)) (e _ (by omega)) (e _ (by omega)) (e _ (by omega)) (e _ (by omega)), BKm_fr h3 (fun i a b => e1 i (by omega)) (fun c a b => e c (by omega)), IA_fr h4 (fun c a b => e c (by omega)) e0.2, fun k hk => RS_fr (h5 k hk) (e _ (by omega)) (e _ (by omega)) (by rw [e 44 (by omega)]) (by rw [e 45 (by omega)]) (fun j hj => by rw [e 46 (by omega)]), RD_fr h6 e0.1 (e1 _ (by omega)) (fun c hc => e c (by omega))⟩
theorem Iv_u0 {μ : Mem} {d : BD} {i : Nat} {v : Int32} (h : Iv μ d) (hi : i ≠ 8 ∧ i ≠ 9) : Iv (up μ 0 i v) d := by
  refine Iv_fr h (fun c hc => up_ne (by unfold Kp at hc; omega)) ⟨up_ot (by omega), up_ot (by omega)⟩ (fun j _ => by rw [up_ne (by omega)])
theorem Iv_u43 {μ : Mem} {d : BD} {i : Nat} {v : Int32} (h : Iv μ d) (hi : (i < 5 ∨ 9 < i) ∧ i ≠ 29) : Iv (up μ 43 i v) d := by
  refine Iv_fr h (fun c hc => up_ne (by unfold Kp at hc; omega)) ⟨by rw [up_ne (by omega)], by rw [up_ne (by omega)]⟩ (fun j _ => up_ot (by omega))
theorem Iv_rd {μ ν : Mem} {d : BD} (h : Iv μ d) (hr : RD ν) (e : ∀ c, c ≠ 0 → c ≠ 43 → c ≠ 33 → c ≠ 34 → c ≠ 62 → c ≠ 63 → ν c = μ c) (e0 : ν 0 9 = μ 0 9) (e1 : ∀ i, 5 ≤ i → i ≤ 9 → ν 43 i = μ 43 i) : Iv ν d := by
  obtain ⟨h1, h2, h3, h4, h5, h6⟩ := h
  exact ⟨h1, BKc_fr h2 (e _ (by omega) (by omega) (by omega) (by omega) (by omega) (by omega)) (e _ (by omega) (by omega) (by omega) (by omega) (by omega) (by omega)) (e _ (by omega) (by omega) (by omega) (by omega) (by omega) (by omega)) (e _ (by omega) (by omega) (by omega) (by omega) (by omega) (by omega)) (e _ (by omega) (by omega) (by omega) (by omega) (by omega) (by omega)) (e _ (by omega) (by omega) (by omega) (by omega) (by omega) (by omega)), BKm_fr h3 e1 (fun c a b => e c (by omega) (by omega) (by omega) (by omega) (by omega) (by omega)), IA_fr h4 (fun c a b => e c (by omega) (by omega) (by omega) (by omega) (by omega) (by omega)) e0, fun k hk => RS_fr (h5 k hk) (e _ (by omega) (by omega) (by omega) (by omega) (by omega) (by omega)) (e _ (by omega) (by omega) (by omega) (by omega) (by omega) (by omega)) (by rw [e 44 (by omega) (by omega) (by omega) (by omega) (by omega) (by omega)]) (by rw [e 45 (by omega) (by omega) (by omega) (by omega) (by omega) (by omega)]) (fun j hj => by rw [e 46 (by omega) (by omega) (by omega) (by omega) (by omega) (by omega)]), hr⟩
theorem Iv_bk {μ ν : Mem} {d d' : BD} (h : Iv μ d) (w : WFd d') (b : BKc 2 ν d') (m : BKm ν d') (e9 : ν 0 9 = nI 0) (e : ∀ c, (33 ≤ c ∧ c ≤ 42) ∨ (44 ≤ c ∧ c ≤ 46) ∨ c = 62 ∨ c = 63 → ν c = μ c) (e0 : ν 0 8 = μ 0 8) (e1 : ν 43 29 = μ 43 29) : Iv ν d' := by
  obtain ⟨h1, h2, h3, h4, h5, h6⟩ := h
  exact ⟨w, b, m, .inl e9, fun k hk => RS_fr (h5 k hk) (e _ (by omega)) (e _ (by omega)) (by rw [e 44 (by omega)]) (by rw [e 45 (by omega)]) (fun j hj => by rw [e 46 (by omega)]), RD_fr h6 e0 e1 (fun c hc => e c (by omega))⟩
theorem Iv_sh {μ ν : Mem} {d : BD} (h : Iv μ d) (hs : ∀ k, k < 4 → RS ν k) (e : ∀ c, c ≠ 0 → c ≠ 43 → c < 35 ∨ 46 < c → ν c = μ c) (e0 : ν 0 8 = μ 0 8 ∧ ν 0 9 = μ 0 9) (e1 : ∀ i, (5 ≤ i ∧ i ≤ 9) ∨ i = 29 → ν 43 i = μ 43 i) : Iv ν d := by
  obtain ⟨h1, h2, h3, h4, h5, h6⟩ := h
  exact ⟨h1, BKc_fr h2 (e _ (by omega) (by omega) (by omega)) (e _ (by omega) (by omega) (by omega)) (e _ (by omega) (by omega) (by omega)) (e _ (by omega) (by omega) (by omega)) (e _ (by omega) (by omega) (by omega)) (e _ (by omega) (by omega) (by omega)), BKm_fr h3 (fun i a b => e1 i (by omega)) (fun c a b => e c (by omega) (by omega) (by omega)), IA_fr h4 (fun c a b => e c (by omega) (by omega) (by omega)) e0.2, hs, RD_fr h6 e0.1 (e1 _ (by omega)) (fun c hc => e c (by omega) (by omega) (by omega))⟩
theorem t_trace (μ : Mem) (h : Inv μ) : ∃ (r : Int32) (μ1 μ2 : Mem), f_X4_trace μ = some (r, μ1) ∧ f_X5_trace μ1 = some (r, μ2) ∧ Inv μ2 := by
  refine ⟨μ 0 10, μ, μ, rfl, ?_, h⟩
  rw [h.2.1]; rfl
theorem t_fault (μ : Mem) (h : Inv μ) : ∃ (r : Int32) (μ1 μ2 : Mem), f_X4_fault μ = some (r, μ1) ∧ f_X5_fault μ1 = some (r, μ2) ∧ Inv μ2 := by
  refine ⟨μ 0 11, μ, μ, rfl, ?_, h⟩
  rw [h.2.2]; rfl
theorem t_many (x : Int32) (μ : Mem) (h : Inv μ) : ∃ (r : Int32) (μ1 μ2 : Mem), f_X4_many x μ = some (r, μ1) ∧ f_X5_many x μ1 = some (r, μ2) ∧ Inv μ2 := by
  have hI := h
  obtain ⟨⟨d, h1, ⟨b1, b2, b3, b4, b5, b6, b7⟩, ⟨m1, m2, m3, m4, m5, m6, m7⟩, h4, h5, ⟨rc, r1, r2, r3, r4⟩⟩, ht, hf⟩ := h
  simp only [f_X4_many, f_X5_many, b1, b2, b3, b4, b5, r2]
  split
  · exact ⟨_, _, _, rfl, by rw [m1], hI⟩
  · split
    · exact ⟨_, _, _, rfl, by rw [m2], hI⟩
    · split
      · exact ⟨_, _, _, rfl, by rw [m3], hI⟩
      · split
        · exact ⟨_, _, _, rfl, by rw [m4], hI⟩
        · split
          · exact ⟨_, _, _, rfl, by rw [m5], hI⟩
          · split
            · exact ⟨_, _, _, rfl, by rw [r3], hI⟩
            · exact ⟨_, _, _, rfl, rfl, hI⟩
