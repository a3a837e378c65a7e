theorem ix7' {x : Int32} {n : Nat} (h : n ≤ 100) : (x < 0 ∨ nI n ≤ x) ∨ ∃ j, j < n ∧ x = nI j := by
  rcases pk_ix x (n := n) (by omega) with a | a | ⟨j, a, b⟩
  · exact .inl (.inl a)
  · exact .inl (.inr a)
  · exact .inr ⟨j, a, b⟩
theorem ip_n {p : Nat} {x : Int32} {μ : Mem} (hp : p < 3) (h : x < 0 ∨ nI (if p = 2 then 8 else 10) ≤ x) : f_X4_isPrice (nI p) x μ = some (nI 0, μ) := by
  unfold f_X4_isPrice
  by_cases h1 : x < 0
  · rw [if_pos h1]; rfl
  · have h2 := h.resolve_left h1
    rw [if_neg h1]
    by_cases e : p = 2
    · subst e
      rw [if_pos rfl] at h2
      rw [if_pos l_2.symm, l_7, if_pos (show nI 7 < x by rw [le_succ (by omega)]; exact h2)]; rfl
    · rw [if_neg e] at h2
      rw [if_neg (show ¬ nI p = 2 by rw [l_2, q_eq (by omega) (by omega)]; exact e), l_9, if_pos (show nI 9 < x by rw [le_succ (by omega)]; exact h2)]; rfl
theorem ip_y {p v : Nat} {μ : Mem} (hp : p < 3) (h : v < (if p = 2 then 8 else 10)) : f_X4_isPrice (nI p) (nI v) μ = some (nI 1, μ) := by
  unfold f_X4_isPrice
  by_cases e : p = 2
  · subst e
    rw [if_pos rfl] at h
    rw [if_neg (nI_pos (by omega)), if_pos l_2.symm, l_7, if_neg (show ¬ nI 7 < nI v by rw [q_lt (by omega) (by omega)]; omega)]; rfl
  · rw [if_neg e] at h
    rw [if_neg (nI_pos (by omega)), if_neg (show ¬ nI p = 2 by rw [l_2, q_eq (by omega) (by omega)]; exact e), l_9, if_neg (show ¬ nI 9 < nI v by rw [q_lt (by omega) (by omega)]; omega)]; rfl
theorem up_self {μ : Mem} {c i : Nat} : up μ c i (μ c i) = μ := by
  funext a b
  simp only [up_if]
  split
  · rename_i h; rw [h.1, h.2]
  · rfl
theorem pr_m {p v : Nat} {μ : Mem} {o : Int32} (hp : p < 3) : jn_X5_price_72 (nI p) (nI v) o μ = some (o, up μ 43 (7 + p) (nI v)) := by
  rcases (show p = 0 ∨ p = 1 ∨ p = 2 by omega) with rfl | rfl | rfl
  · have a1 : ¬ nI 0 = 1 := by decide
    have a2 : ¬ nI 0 = 2 := by decide
    simp only [jn_X5_price_72, jn_X5_price_86, jn_X5_price_103, e00, if_true, lt_eq, a1, a2, if_false, up_self]
  · have a1 : nI 1 = 1 := by decide
    have a2 : ¬ nI 1 = 2 := by decide
    simp only [jn_X5_price_72, jn_X5_price_86, jn_X5_price_103, e10, if_false, lt_eq, a1, if_true, up_self]
    rw [if_neg (by decide), if_neg (by decide)]
  · have a1 : ¬ nI 2 = 1 := by decide
    have a2 : nI 2 = 2 := by decide
    have a0 : ¬ nI 2 = 0 := by decide
    simp only [jn_X5_price_72, jn_X5_price_86, jn_X5_price_103, a0, a1, a2, if_false, lt_eq, if_true, up_self]
    rw [if_neg (by decide), if_neg (by decide)]
theorem pr_c {p v : Nat} {μ : Mem} {q : Nat} {v' : Int32} (hp : p < 3) : f_X1_setPrice q (nI p) v' μ = some (up μ q (7 + p) v') ∧ f_X1_priceOf q (nI p) μ = some (μ q (7 + p), μ) := by
  rcases (show p = 0 ∨ p = 1 ∨ p = 2 by omega) with rfl | rfl | rfl
  · exact ⟨rfl, rfl⟩
  · exact ⟨rfl, rfl⟩
  · exact ⟨rfl, rfl⟩
theorem t_price (x y : Int32) (μ : Mem) (h : Inv μ) : ∃ (r : Int32) (μ1 μ2 : Mem), f_X4_price x y μ = some (r, μ1) ∧ f_X5_price x y μ1 = some (r, μ2) ∧ Inv μ2 := by
  have hI' := h
  obtain ⟨⟨d, hI⟩, ht, hf⟩ := h
  have w := hI.1
  have hm := hI.2.2.1
  have hb := hI.2.1
  have w1 := w.1
  rcases ix7 (x := x) (n := 3) (by omega) with hx | ⟨p, hp, rfl⟩
  · refine ⟨-2, μ, μ, ?_, ?_, hI'⟩
    · unfold f_X4_price
      rcases hx with hx | hx
      · rw [if_pos hx]
      · rw [if_neg (nn_of hx (by omega)), if_neg (Int32.not_le.mpr (by rw [l_2, le_succ (by omega)]; exact hx))]
    · have := wi_n (x := x) (lo := 0) (hi := 2) (μ := μ) (by rw [l_2, le_succ (by omega)]; exact hx)
      simp only [f_X5_price, this, b2_some, e00, if_true]
  · have z0 : ∀ ν : Mem, f_X5_within (nI p) 0 2 ν = some (nI 1, ν) := fun ν => by rw [l_0, l_2, wi_j (by omega) (by omega) (by omega)]
    have z1 : nI p ≤ 2 := by rw [l_2, q_le (by omega) (by omega)]; omega
    by_cases h0 : d 0 0 = 0
    · have a1 := hb.1
      have a2 := hm.1
      rw [h0] at a1 a2
      refine ⟨-3, μ, μ, ?_, ?_, hI'⟩
      · simp only [f_X4_price, nI_pos (show p < 2147483648 by omega), z1, if_false, if_true, th_n a1, b2_some, e00]
      · simp only [f_X5_price, z0, b2_some, e10, if_false, a2, e00, if_true]
    · have n0 : ¬ nI (d 0 0) = 0 := nz (by omega) (by omega)
      have z3 : ∀ ν : Mem, ν 43 5 = nI (d 0 0) → f_X5_price (nI p) y ν = jn_X5_price_36 (nI p) y (nI (if p = 2 then 7 else 9)) 0 y ν := by
        intro ν hν
        simp only [f_X5_price, z0, b2_some, e10, if_false, hν, n0]
        by_cases e : p = 2
        · subst e; rw [if_pos l_2.symm, if_pos rfl]; rfl
        · rw [if_neg (show ¬ nI p = 2 by rw [l_2, q_eq (by omega) (by omega)]; exact e), if_neg e]; rfl
      rcases ix7' (x := y) (n := if p = 2 then 8 else 10) (by split <;> omega) with hy | ⟨v, hv, rfl⟩
      · refine ⟨-2, μ, μ, ?_, ?_, hI'⟩
        · simp only [f_X4_price, nI_pos (show p < 2147483648 by omega), z1, if_false, if_true, th_y hb.1 (by omega) w1, b2_some, e10, ip_n hp hy, e00]
        · rw [z3 μ hm.1]
          have : y < 0 ∨ nI (if p = 2 then 7 else 9) < y := by
            rw [le_succ (by split <;> omega)]
            rw [show (if p = 2 then 7 else 9) + 1 = (if p = 2 then 8 else 10) by split <;> rfl]
            exact hy
          simp only [jn_X5_price_36, wi_n this, b2_some, e00, if_true]
      · have v9 : v ≤ 9 := by revert hv; split <;> omega
        have v7 : p = 2 → v ≤ 7 := by intro e; rw [if_pos e] at hv; omega
        refine ⟨μ 2 (7 + p), up (up μ 2 (7 + p) (nI v)) 0 9 0, up (up (up μ 2 (7 + p) (nI v)) 0 9 0) 43 (7 + p) (nI v), ?_, ?_, ⟨dU d 0 (2 + p) v, Iv_bk hI (WFd_p w (by omega) (by omega) v9) (BKc_fr (BKc_p (q := 2) (p := 2 + p) (v := v) (by omega) hb) ?_ ?_ ?_ ?_ ?_ ?_) ?_ ?_ (fun c hc => ?_) ?_ ?_⟩, ?_, ?_⟩
        · simp only [f_X4_price, nI_pos (show p < 2147483648 by omega), z1, if_false, if_true, th_y hb.1 (by omega) w1, b2_some, e10, ip_y hp hv, (pr_c (v := 0) (v' := nI v) hp).1, (pr_c (v := 0) (v' := nI v) hp).2, b1_some, lt_eq]
        · rw [z3 _ (by rw [up_ne (by omega), up_ne (by omega)]; exact hm.1)]
          have e7 : μ 2 (7 + p) = μ 43 (7 + p) := by
            rcases (show p = 0 ∨ p = 1 ∨ p = 2 by omega) with rfl | rfl | rfl
            · rw [hb.2.2.1, hm.2.2.1]
            · rw [hb.2.2.2.1, hm.2.2.2.1]
            · rw [hb.2.2.2.2.1, hm.2.2.2.2.1]
          have : ∀ ν, f_X5_within (nI v) 0 (nI (if p = 2 then 7 else 9)) ν = some (nI 1, ν) := fun ν => by
            rw [l_0, wi_j (by omega) (by revert hv; split <;> omega) (by split <;> omega)]
          rw [e7]
          simp only [jn_X5_price_36, this, b2_some, e10, if_false]
          rcases (show p = 0 ∨ p = 1 ∨ p = 2 by omega) with rfl | rfl | rfl
          · rw [if_pos (e00 ▸ trivial), pr_m (by omega)]
            simp only [up_ne (show 43 ≠ 0 by omega), up_ne (show 43 ≠ 2 by omega)]
          · rw [if_neg (e10 ▸ not_false), if_pos l_1.symm, pr_m (by omega)]
            simp only [up_ne (show 43 ≠ 0 by omega), up_ne (show 43 ≠ 2 by omega)]
          · rw [if_neg (by decide), if_neg (by decide), pr_m (by omega)]
            simp only [up_ne (show 43 ≠ 0 by omega), up_ne (show 43 ≠ 2 by omega)]
        · rw [up_ne (by omega), up_ne (by omega), show 5 + (2 + p) = 7 + p by omega]
        · rw [up_ne (by omega), up_ne (by omega), show 5 + (2 + p) = 7 + p by omega]
        · rw [up_ne (by omega), up_ne (by omega), show 5 + (2 + p) = 7 + p by omega]
        · rw [up_ne (by omega), up_ne (by omega), show 5 + (2 + p) = 7 + p by omega]
        · rw [up_ne (by omega), up_ne (by omega), show 5 + (2 + p) = 7 + p by omega]
        · rw [up_ne (by omega), up_ne (by omega), show 5 + (2 + p) = 7 + p by omega]
        · have := BKm_p (p := 2 + p) (v := v) (by omega) (BKm_fr (ν := up (up μ 2 (7 + p) (nI v)) 0 9 0) hm (fun i a b => by rw [up_ne (by omega), up_ne (by omega)]) (fun c a b => by rw [up_ne (by omega), up_ne (by omega)]))
          rw [show 5 + (2 + p) = 7 + p by omega] at this
          exact this
        · rw [up_ne (by omega), up_at]; rfl
        · rw [up_ne (by omega), up_ne (by omega), up_ne (by omega)]
        · simp [up_if]
        · rw [up_ot (by omega), up_ne (by omega), up_ne (by omega)]
        · rw [up_ne (by omega), up_ot (by omega), up_ne (by omega), up_ot (by omega), up_ne (by omega), up_ne (by omega)]; exact ht
        · rw [up_ne (by omega), up_ot (by omega), up_ne (by omega), up_ot (by omega), up_ne (by omega), up_ne (by omega)]; exact hf
