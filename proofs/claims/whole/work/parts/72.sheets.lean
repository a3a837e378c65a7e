def HC (n : Nat) (x y : Int32) : Prop := 0 ≤ x.toInt ∧ 0 ≤ y.toInt ∧ x.toInt + y.toInt ≤ n
theorem i0 : (0 : Int32).toInt = 0 := by decide
theorem i1 : (1 : Int32).toInt = 1 := by decide
theorem hc_y {q n : Nat} {x y : Int32} {μ : Mem} (h : μ q 3 = nI n) (hn : n ≤ 60) (hc : HC n x y) : f_X2_hasCells q x y μ = some (nI 1, μ) := by
  obtain ⟨a1, a2, a3⟩ := hc
  have e := nI_toInt (show n < 2147483648 by omega)
  have s := fb_subI (x := nI n) (y := x) (by omega) (by omega)
  unfold f_X2_hasCells
  rw [h, if_neg (by rw [fa_lt, i0]; omega), if_neg (by rw [fa_lt, i0]; omega), if_neg (by rw [fa_lt, e]; omega), if_neg (by rw [fa_lt, s, e]; omega)]; rfl
theorem hc_n {q n : Nat} {x y : Int32} {μ : Mem} (h : μ q 3 = nI n) (hn : n ≤ 60) (hc : ¬ HC n x y) : f_X2_hasCells q x y μ = some (nI 0, μ) := by
  unfold HC at hc
  have e := nI_toInt (show n < 2147483648 by omega)
  unfold f_X2_hasCells
  rw [h]
  by_cases c1 : x < 0
  · rw [if_pos c1]; rfl
  · rw [if_neg c1]
    by_cases c2 : y < 0
    · rw [if_pos c2]; rfl
    · rw [if_neg c2]
      by_cases c3 : nI n < x
      · rw [if_pos c3]; rfl
      · rw [if_neg c3]
        rw [fa_lt, i0] at c1 c2
        rw [fa_lt, e] at c3
        have s := fb_subI (x := nI n) (y := x) (by omega) (by omega)
        rw [if_pos (by rw [fa_lt, s, e]; omega)]; rfl
theorem HC_nat {n : Nat} {x y : Int32} (hn : n ≤ 60) (hc : HC n x y) : ∃ i m, x = nI i ∧ y = nI m ∧ i + m ≤ n := by
  obtain ⟨a1, a2, a3⟩ := hc
  rcases pk_ix x (n := 61) (by omega) with b | b | ⟨i, hi, rfl⟩
  · rw [fa_lt, i0] at b; omega
  · rw [fa_le, nI_toInt (by omega)] at b; omega
  · rcases pk_ix y (n := 61) (by omega) with b | b | ⟨m, hm, rfl⟩
    · rw [fa_lt, i0] at b; omega
    · rw [fa_le, nI_toInt (by omega)] at b; omega
    · rw [nI_toInt (by omega), nI_toInt (by omega)] at a3
      exact ⟨i, m, rfl, rfl, by omega⟩
theorem HC_1 {n : Nat} {x : Int32} {μ : Mem} (hn : n ≤ 60) : (HC n x 1 → f_X5_within x 0 (nI n - 1) μ = some (nI 1, μ)) ∧ (¬ HC n x 1 → f_X5_within x 0 (nI n - 1) μ = some (nI 0, μ)) := by
  have e := nI_toInt (show n < 2147483648 by omega)
  have s := fb_subI (x := nI n) (y := 1) (by rw [i1]; omega) (by rw [i1]; omega)
  rw [i1, e] at s
  unfold HC
  rw [i1]
  refine ⟨fun h => wi_y (by rw [fa_lt, i0]; omega) (by rw [fa_lt, s]; omega), fun h => wi_n ?_⟩
  rw [fa_lt, fa_lt, i0, s]
  omega
theorem RS_o {μ ν : Mem} {k : Nat} (hk : k < 4) (h : ∀ k', k' < 4 → RS μ k') (hr : RS ν k) (e : ∀ c, 35 ≤ c → c ≤ 42 → c ≠ 35 + 2 * k → c ≠ 36 + 2 * k → ν c = μ c) (e4 : ∀ j, j ≠ k → ν 44 j = μ 44 j ∧ ν 45 j = μ 45 j) (e6 : ∀ j, j < 60 * k ∨ 60 * k + 60 ≤ j → ν 46 j = μ 46 j) : ∀ k', k' < 4 → RS ν k' := by
  intro k' hk'
  by_cases c : k' = k
  · rw [c]; exact hr
  · exact RS_fr (h k' hk') (e _ (by omega) (by omega) (by omega) (by omega)) (e _ (by omega) (by omega) (by omega) (by omega)) (e4 _ c).1 (e4 _ c).2 (fun j hj => e6 _ (by omega))
theorem t_lose (x : Int32) (μ : Mem) (h : Inv μ) : ∃ (r : Int32) (μ1 μ2 : Mem), f_X4_lose x μ = some (r, μ1) ∧ f_X5_lose x μ1 = some (r, μ2) ∧ Inv μ2 := by
  have hI' := h
  obtain ⟨⟨d, hI⟩, ht, hf⟩ := h
  rcases ix7 (x := x) (n := 4) (by omega) with hx | ⟨k, hk, rfl⟩
  · exact ⟨-1, μ, μ, by simp only [f_X4_lose, sh4_n hx, b2_some, e00, if_true], by simp only [f_X5_lose, sh5_n hx, b2_some, e00, if_true], hI'⟩
  · have R := hI.2.2.2.2.1 k hk
    have fin : Inv (up (up μ (35 + 2 * k) 1 0) 44 k (-9)) := by
      refine ⟨⟨d, Iv_sh hI (RS_o hk hI.2.2.2.2.1 ⟨.inl ⟨?_, up_at _ _ _ _⟩, ?_, fun j hj => ?_⟩ (fun c c1 c2 c3 c4 => ?_) (fun j hj => ⟨?_, ?_⟩) (fun j hj => ?_)) (fun c c1 c2 c3 => ?_) ⟨?_, ?_⟩ (fun i hi => ?_)⟩, ?_, ?_⟩
      · rw [up_ne (by omega), up_at]; rfl
      · rw [up_ne (by omega), up_ot (by omega), up_ne (by omega), up_ne (by omega)]; exact R.2.1
      · rw [up_ne (by omega), up_ne (by omega), up_ne (by omega), up_ne (by omega)]; exact R.2.2 j hj
      · rw [up_ne (by omega), up_ne (by omega)]
      · rw [up_ot (by omega), up_ne (by omega)]
      · rw [up_ne (by omega), up_ne (by omega)]
      · rw [up_ne (by omega), up_ne (by omega)]
      · rw [up_ne (by omega), up_ne (by omega)]
      · rw [up_ne (by omega), up_ne (by omega)]
      · rw [up_ne (by omega), up_ne (by omega)]
      · rw [up_ne (by omega), up_ne (by omega)]
      · rw [up_ne (by omega), up_ne (by omega), up_ne (by omega), up_ne (by omega)]; exact ht
      · rw [up_ne (by omega), up_ne (by omega), up_ne (by omega), up_ne (by omega)]; exact hf
    rcases R.1 with ⟨a1, a2⟩ | ⟨a1, l, a2, a3, a4⟩
    · refine ⟨0, up μ (35 + 2 * k) 1 0, _, ?_, ?_, fin⟩
      · simp (disch := omega) only [f_X4_lose, sh4_y hk, b2_some, e10, if_false, q_ck, lt_eq, shc_n hk, a1, e00, if_true]
      · simp (disch := omega) only [f_X5_lose, sh5_y hk, b2_some, e10, if_false, q_ck, q_cl, jn_X5_lose_25, lt_eq, up_ne, a2, if_true]
    · refine ⟨1, up μ (35 + 2 * k) 1 0, _, ?_, ?_, fin⟩
      · simp (disch := omega) only [f_X4_lose, sh4_y hk, b2_some, e10, if_false, q_ck, lt_eq, shc_n hk, a1]
      · simp (disch := omega) only [f_X5_lose, sh5_y hk, b2_some, e10, if_false, q_ck, q_cl, jn_X5_lose_25, lt_eq, up_ne, a4, q_n9]
theorem Inv_ff {μ : Mem} {d : BD} (hI : Iv μ d) (ht : μ 0 10 = μ 43 1) (a b : Int32) : Inv (up (up (up (up μ 0 11 a) 0 11 b) 43 0 a) 43 0 b) :=
  ⟨⟨d, Iv_u43 (Iv_u43 (Iv_u0 (Iv_u0 hI (by omega)) (by omega)) (by omega)) (by omega)⟩, by simpa [up_if] using ht, by simp [up_if]⟩
theorem Inv_f {μ : Mem} {d : BD} (hI : Iv μ d) (ht : μ 0 10 = μ 43 1) (a : Int32) : Inv (up (up μ 0 11 a) 43 0 a) :=
  ⟨⟨d, Iv_u43 (Iv_u0 hI (by omega)) (by omega)⟩, by simpa [up_if] using ht, by simp [up_if]⟩
theorem RS_cell {ν : Mem} {d : BD} {k i : Nat} {v : Int32} (hI : Iv ν d) (hk : k < 4) (hi : i < 60) : Iv (up (up ν (36 + 2 * k) i v) 46 (60 * k + i) v) d := by
  have R := hI.2.2.2.2.1 k hk
  refine Iv_sh hI (RS_o hk hI.2.2.2.2.1 ⟨?_, ?_, fun j hj => ?_⟩ (fun c c1 c2 c3 c4 => ?_) (fun j hj => ⟨?_, ?_⟩) (fun j hj => ?_)) (fun c c1 c2 c3 => ?_) ⟨?_, ?_⟩ (fun i hi => ?_)
  · rw [up_ne (by omega), up_ne (by omega), up_ne (by omega), up_ne (by omega)]; exact R.1
  · rw [up_ne (by omega), up_ne (by omega), up_ne (by omega), up_ne (by omega)]; exact R.2.1
  · have r := R.2.2 j hj
    rw [up_ne (show 36 + 2 * k ≠ 46 by omega)]
    by_cases c : j = i
    · rw [c, up_at, up_at]
    · rw [up_ot (by omega), up_ot (by omega), up_ne (by omega)]; exact r
  · rw [up_ne (by omega), up_ne (by omega)]
  · rw [up_ne (by omega), up_ne (by omega)]
  · rw [up_ne (by omega), up_ne (by omega)]
  · rw [up_ot (by omega), up_ne (by omega)]
  · rw [up_ne (by omega), up_ne (by omega)]
  · rw [up_ne (by omega), up_ne (by omega)]
  · rw [up_ne (by omega), up_ne (by omega)]
  · rw [up_ne (by omega), up_ne (by omega)]
theorem t_put (x y z : Int32) (μ : Mem) (h : Inv μ) : ∃ (r : Int32) (μ1 μ2 : Mem), f_X4_put x y z μ = some (r, μ1) ∧ f_X5_put x y z μ1 = some (r, μ2) ∧ Inv μ2 := by
  obtain ⟨⟨d, hI⟩, ht, hf⟩ := h
  rcases ix7 (x := x) (n := 4) (by omega) with hx | ⟨k, hk, rfl⟩
  · exact ⟨-1, up μ 0 11 0, _, by simp only [f_X4_put, lt_eq, sh4_n hx, b2_some, e00, if_true], by simp only [f_X5_put, lt_eq, sh5_n hx, b2_some, e00, if_true], Inv_f hI ht 0⟩
  · have hJ : Iv (up μ 0 11 0) d := Iv_u0 hI (by omega)
    have R := hJ.2.2.2.2.1 k hk
    obtain ⟨n, n1, n2, n3⟩ := R.2.1
    have ff : ∀ e : Int32, f_X4_put (nI k) y z μ = some (-10 - e, up (up μ 0 11 0) 0 11 e) → (∀ ν : Mem, ν 44 k = up μ 0 11 0 44 k → ν 45 k = up μ 0 11 0 45 k → f_X5_put (nI k) y z ν = some (-10 - e, up (up ν 43 0 0) 43 0 e)) → ∃ (r : Int32) (μ1 μ2 : Mem), f_X4_put (nI k) y z μ = some (r, μ1) ∧ f_X5_put (nI k) y z μ1 = some (r, μ2) ∧ Inv μ2 :=
      fun e u v => ⟨_, _, _, u, v _ (by rw [up_ne (show 44 ≠ 0 by omega)]) (by rw [up_ne (show 45 ≠ 0 by omega)]), Inv_ff hI ht 0 e⟩
    rcases R.1 with ⟨a1, a2⟩ | ⟨a1, l, a2, a3, a4⟩
    · apply ff 1
      · simp only [f_X4_put, lt_eq]
        generalize up μ 0 11 0 = ν at a1 ⊢
        simp (disch := omega) only [sh4_y hk, b2_some, e10, if_false, q_ck, lt_eq, shc_n hk, a1, e00, if_true, f_X4_failed]
      · intro ν g1 g2
        rw [a2] at g1
        simp (disch := omega) only [f_X5_put, lt_eq, sh5_y hk, b2_some, e10, if_false, q_ck, q_cl, up_ne, g1, if_true, f_X5_fails]
    · by_cases hc : HC n y 1
      · obtain ⟨i, m, e1, e2, e3⟩ := HC_nat n1 hc
        subst e1
        have m1 : m = 1 := by
          by_cases c : m = 1
          · exact c
          · rw [l_1, q_eq (by omega) (by omega)] at e2; omega
        have hi : i < 60 := by omega
        have hv := (HC_1 (μ := up (up (up μ 0 11 0) (36 + 2 * k) i (if l = 0 then z.toInt8.toInt32 else if l = 1 then z.toInt16.toInt32 else z)) 43 0 0) n1).1 hc
        refine ⟨1, up (up μ 0 11 0) (36 + 2 * k) i (if l = 0 then z.toInt8.toInt32 else if l = 1 then z.toInt16.toInt32 else z), up (up (up (up μ 0 11 0) (36 + 2 * k) i (if l = 0 then z.toInt8.toInt32 else if l = 1 then z.toInt16.toInt32 else z)) 43 0 0) 46 (60 * k + i) (if l = 0 then z.toInt8.toInt32 else if l = 1 then z.toInt16.toInt32 else z), ?_, ?_, ?_⟩
        · simp only [f_X4_put, lt_eq]
          generalize up μ 0 11 0 = ν at a1 a3 n2 ⊢
          simp (disch := omega) only [sh4_y hk, b2_some, e10, if_false, q_ck, lt_eq, shc_n hk, a1, hc_y n2 n1 hc, f_X2_cut, a3, q_cl, show 35 + 2 * k + 1 = 36 + 2 * k by omega]
          rcases (show l = 0 ∨ l = 1 ∨ l = 2 by omega) with rfl | rfl | rfl
          · rw [if_pos (by decide)]; rfl
          · rw [if_neg (by decide), if_pos (by decide)]; rfl
          · rw [if_neg (by decide), if_neg (by decide)]; rfl
        · simp only [f_X5_put, lt_eq]
          have g4 : up (up (up μ 0 11 0) (36 + 2 * k) i (if l = 0 then z.toInt8.toInt32 else if l = 1 then z.toInt16.toInt32 else z)) 43 0 0 44 k = nI l := by rw [up_ne (by omega), up_ne (by omega)]; exact a4
          have g5 : up (up (up μ 0 11 0) (36 + 2 * k) i (if l = 0 then z.toInt8.toInt32 else if l = 1 then z.toInt16.toInt32 else z)) 43 0 0 45 k = nI n := by rw [up_ne (by omega), up_ne (by omega)]; exact n3
          generalize up (up (up μ 0 11 0) (36 + 2 * k) i (if l = 0 then z.toInt8.toInt32 else if l = 1 then z.toInt16.toInt32 else z)) 43 0 0 = ν at g4 g5 hv ⊢
          simp (disch := omega) only [sh5_y hk, b2_some, e10, if_false, q_ck, q_cl, g4, g5, q_n9, hv, l_60, q_mul, q_add]
          rcases (show l = 0 ∨ l = 1 ∨ l = 2 by omega) with rfl | rfl | rfl
          · rw [if_pos (by decide)]; rfl
          · rw [if_neg (by decide), if_pos (by decide)]; rfl
          · rw [if_neg (by decide), if_neg (by decide)]; rfl
        · generalize (if l = 0 then z.toInt8.toInt32 else if l = 1 then z.toInt16.toInt32 else z) = v
          have e : up (up (up (up μ 0 11 0) (36 + 2 * k) i v) 43 0 0) 46 (60 * k + i) v = up (up (up (up μ 0 11 0) 43 0 0) (36 + 2 * k) i v) 46 (60 * k + i) v := by
            funext a b
            simp only [up_if]
            by_cases q1 : a = 43 ∧ b = 0
            · rw [if_pos q1, if_neg (by omega), if_neg (by omega), if_neg (by omega), if_pos q1]
            · rw [if_neg q1, if_neg q1]
          rw [e]
          refine ⟨⟨d, RS_cell (Iv_u43 hJ (by omega)) hk hi⟩, ?_, ?_⟩
          · rw [up_ne (by omega), up_ne (by omega), up_ne (by omega), up_ot (by omega), up_ne (by omega), up_ne (by omega), up_ot (by omega), up_ne (by omega)]; exact ht
          · rw [up_ne (by omega), up_ne (by omega), up_ne (by omega), up_at, up_ne (by omega), up_ne (by omega), up_at]
      · apply ff 3
        · simp only [f_X4_put, lt_eq]
          generalize up μ 0 11 0 = ν at a1 n2 ⊢
          simp (disch := omega) only [sh4_y hk, b2_some, e10, if_false, q_ck, lt_eq, shc_n hk, a1, hc_n n2 n1 hc, e00, if_true, f_X4_failed]
        · intro ν g1 g2
          rw [a4] at g1
          rw [n3] at g2
          simp (disch := omega) only [f_X5_put, lt_eq, sh5_y hk, b2_some, e10, if_false, q_ck, q_cl, up_ne, g1, g2, q_n9, (HC_1 n1).2 hc, e00, if_true, f_X5_fails]
theorem t_cell (x y z : Int32) (μ : Mem) (h : Inv μ) : ∃ (r : Int64) (μ1 μ2 : Mem), f_X4_cell x y z μ = some (r, μ1) ∧ f_X5_cell x y z μ1 = some (r, μ2) ∧ Inv μ2 := by
  obtain ⟨⟨d, hI⟩, ht, hf⟩ := h
  rcases ix7 (x := x) (n := 4) (by omega) with hx | ⟨k, hk, rfl⟩
  · exact ⟨-9223372036854775808, up μ 0 11 0, _, by simp only [f_X4_cell, lt_eq, sh4_n hx, b2_some, e00, if_true], by simp only [f_X5_cell, lt_eq, sh5_n hx, b2_some, e00, if_true], Inv_f hI ht 0⟩
  · rcases ix7 (x := z) (n := 3) (by omega) with hz | ⟨t, hl, rfl⟩
    · exact ⟨-9223372036854775808, up μ 0 11 0, _, by simp only [f_X4_cell, lt_eq, sh4_y hk, ln4_n hz, b2_some, e10, if_false, e00, if_true], by simp only [f_X5_cell, lt_eq, sh5_y hk, ln5_n hz, b2_some, e10, if_false, e00, if_true], Inv_f hI ht 0⟩
    · have hJ : Iv (up μ 0 11 0) d := Iv_u0 hI (by omega)
      have R := hJ.2.2.2.2.1 k hk
      obtain ⟨n, n1, n2, n3⟩ := R.2.1
      have n10 : ¬ (1 : Int32) = 0 := by decide
      have n20 : ¬ (2 : Int32) = 0 := by decide
      have n30 : ¬ (3 : Int32) = 0 := by decide
      rcases R.1 with ⟨a1, a2⟩ | ⟨a1, l, a2, a3, a4⟩
      · refine ⟨-9223372036854775808, up (up μ 0 11 0) 0 11 1, up (up (up (up μ 0 11 0) 0 11 1) 43 0 0) 43 0 1, ?_, ?_, Inv_ff hI ht 0 1⟩
        · simp only [f_X4_cell, lt_eq]
          generalize up μ 0 11 0 = ν at a1 ⊢
          simp (disch := omega) only [sh4_y hk, ln4_y hl, b2_some, e10, if_false, q_ck, lt_eq, shc_n hk, f_X2_faultAs, a1, e00, if_true, up_at, n10, jn_X4_cell_63]
        · simp (disch := omega) only [f_X5_cell, lt_eq, sh5_y hk, ln5_y hl, b2_some, e10, if_false, q_ck, q_cl, jn_X5_cell_50, up_ne, ← a2, if_true, f_X5_lost]
      · by_cases c : l = t
        · subst c
          by_cases hc : HC n y 1
          · obtain ⟨i, m, e1, e2, e3⟩ := HC_nat n1 hc
            subst e1
            have m1 : m = 1 := by
              by_cases c : m = 1
              · exact c
              · rw [l_1, q_eq (by omega) (by omega)] at e2; omega
            have hi : i < 60 := by omega
            have r := R.2.2 i hi
            have w1 := fun ν => (HC_1 (μ := ν) n1).1 hc
            refine ⟨(up μ 0 11 0 (36 + 2 * k) i).toInt64, up (up μ 0 11 0) 0 11 0, up (up (up μ 0 11 0) 0 11 0) 43 0 0, ?_, ?_, ?_⟩
            · simp only [f_X4_cell, lt_eq]
              generalize up μ 0 11 0 = ν at a1 a3 n2 ⊢
              have n2' : up ν 0 11 0 (35 + 2 * k) 3 = nI n := by rw [up_ne (by omega)]; exact n2
              simp (disch := omega) only [sh4_y hk, ln4_y hl, b2_some, e10, if_false, q_ck, lt_eq, shc_n hk, f_X2_faultAs, a1, a3, if_true, up_at, hc_y n2' n1 hc, jn_X4_cell_63, q_cl, up_ne, show 35 + 2 * k + 1 = 36 + 2 * k by omega]
            · rw [up2]
              generalize up μ 0 11 0 = ν at a4 n3 r ⊢
              simp (disch := omega) only [f_X5_cell, lt_eq, sh5_y hk, ln5_y hl, b2_some, e10, if_false, q_ck, q_cl, jn_X5_cell_50, up_ne, a4, n3, q_n9, if_true, w1, l_60, q_mul, q_add, r]
            · rw [up2]; exact Inv_f hI ht 0
          · refine ⟨-9223372036854775808, up (up (up μ 0 11 0) 0 11 0) 0 11 3, up (up (up (up (up μ 0 11 0) 0 11 0) 0 11 3) 43 0 0) 43 0 3, ?_, ?_, ?_⟩
            · simp only [f_X4_cell, lt_eq]
              generalize up μ 0 11 0 = ν at a1 a3 n2 ⊢
              have n2' : up ν 0 11 0 (35 + 2 * k) 3 = nI n := by rw [up_ne (by omega)]; exact n2
              simp (disch := omega) only [sh4_y hk, ln4_y hl, b2_some, e10, if_false, q_ck, lt_eq, shc_n hk, f_X2_faultAs, a1, a3, if_true, up_at, hc_n n2' n1 hc, e00, jn_X4_cell_63, n30]
            · rw [up2]
              have w0 := fun ν => (HC_1 (μ := ν) n1).2 hc
              generalize up μ 0 11 0 = ν at a4 n3 ⊢
              simp (disch := omega) only [f_X5_cell, lt_eq, sh5_y hk, ln5_y hl, b2_some, e10, if_false, q_ck, q_cl, jn_X5_cell_50, up_ne, a4, n3, q_n9, if_true, w0, e00, f_X5_lost]
            · simp only [up2]; exact Inv_f hI ht 3
        · refine ⟨-9223372036854775808, up (up μ 0 11 0) 0 11 2, up (up (up (up μ 0 11 0) 0 11 2) 43 0 0) 43 0 2, ?_, ?_, Inv_ff hI ht 0 2⟩
          · simp only [f_X4_cell, lt_eq]
            generalize up μ 0 11 0 = ν at a1 a3 ⊢
            simp (disch := omega) only [sh4_y hk, ln4_y hl, b2_some, e10, if_false, q_ck, lt_eq, shc_n hk, f_X2_faultAs, a1, a3, q_eq, c, up_at, n20, jn_X4_cell_63]
          · generalize up μ 0 11 0 = ν at a4 ⊢
            simp (disch := omega) only [f_X5_cell, lt_eq, sh5_y hk, ln5_y hl, b2_some, e10, if_false, q_ck, q_cl, up_ne, a4, q_n9, q_eq, c, f_X5_lost]
