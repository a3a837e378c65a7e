def Cn (S : Nat → Nat) (s : Nat) : Nat → Nat
  | 0 => 0
  | n + 1 => Cn S s n + if S n = s then 1 else 0
theorem Cn_le (S : Nat → Nat) (s : Nat) : ∀ n, Cn S s n ≤ n
  | 0 => Nat.le_refl _
  | n + 1 => by
    have := Cn_le S s n
    rw [Cn]
    split <;> omega
theorem c_hm4 {al s K : Nat} {μ : Mem} {S : Nat → Nat} (hs : s < 5) (hK : K ≤ 14) (h10 : μ al 10 = nI K) (hk : ∀ k, k < K → S k < 5 ∧ μ (al + 6) k = nI (S k)) : ∀ (m n f : Nat), n + m = K → m < f → lp_X0_howManyOf_4 al (nI s) f (nI (Cn S s n)) (nI n) μ = some (nI (Cn S s K), μ) := by
  intro m
  induction m with
  | zero =>
    intro n f hn hf
    obtain ⟨f, rfl⟩ : ∃ m, f = m + 1 := ⟨f - 1, by omega⟩
    rw [lp_X0_howManyOf_4, h10, show n = K by omega, if_pos (Int32.le_refl _)]
  | succ m ih =>
    intro n f hn hf
    obtain ⟨f, rfl⟩ : ∃ m, f = m + 1 := ⟨f - 1, by omega⟩
    obtain ⟨a1, a2⟩ := hk n (by omega)
    have IH := ih (n + 1) f (by omega) (by omega)
    have := Cn_le S s n
    rw [lp_X0_howManyOf_4, h10, if_neg (show ¬ nI K ≤ nI n by rw [q_le (by omega) (by omega)]; omega)]
    simp (disch := omega) only [q_ck, q_cl, a2, q_eq, lt_eq, l_1, q_add]
    rw [Cn] at IH
    by_cases c : S n = s
    · rw [if_pos c]
      rw [if_pos c] at IH
      exact IH
    · rw [if_neg c]
      rw [if_neg c] at IH
      exact IH
theorem m_od43 {s K : Nat} {μ : Mem} {S : Nat → Nat} {x2 : Int32} (hs : s < 5) (hK : K ≤ 14) (h10 : μ 43 24 = nI K) (hk : ∀ k, k < K → S k < 5 ∧ μ 58 k = nI (S k)) : ∀ (m n f : Nat), n + m = K → m < f → lp_X5_odds_43 (nI s) x2 f (nI (Cn S s n)) (nI n) μ = some (nI (Cn S s K), μ) := by
  intro m
  induction m with
  | zero =>
    intro n f hn hf
    obtain ⟨f, rfl⟩ : ∃ m, f = m + 1 := ⟨f - 1, by omega⟩
    rw [lp_X5_odds_43, h10, show n = K by omega, if_pos (Int32.le_refl _)]
  | succ m ih =>
    intro n f hn hf
    obtain ⟨f, rfl⟩ : ∃ m, f = m + 1 := ⟨f - 1, by omega⟩
    obtain ⟨a1, a2⟩ := hk n (by omega)
    have IH := ih (n + 1) f (by omega) (by omega)
    have := Cn_le S s n
    rw [lp_X5_odds_43, h10, if_neg (show ¬ nI K ≤ nI n by rw [q_le (by omega) (by omega)]; omega)]
    simp (disch := omega) only [q_ck, q_cl, a2, q_eq, lt_eq, l_0, l_1, q_add]
    rw [Cn] at IH
    by_cases c : S n = s
    · rw [if_pos c]
      rw [if_pos c] at IH
      exact IH
    · rw [if_neg c]
      rw [if_neg c] at IH
      exact IH
theorem ck_n0 {R : Type} {n : Nat} {x : Option R} (h : 0 < n) (h2 : n < 2147483648) : ck (decide (¬ nI n = 0)) x = x := by
  have : ¬ nI n = 0 := nz h h2
  rw [ck, decide_eq_true this, if_pos rfl]
theorem c_cd2 {c K : Nat} {μ : Mem} (hc : c ≤ 14) (hK : K ≤ 14) (hK0 : 0 < K) : ∀ (v f : Nat), v ≤ 14 → v < f → 1 ≤ v → (∀ t, v < t → ¬ (t ∣ c ∧ t ∣ K)) → lp_X4_commonDivisor_2 (nI c) (nI K) f (nI v) μ = some (nI (Nat.gcd c K), μ) := by
  intro v
  induction v with
  | zero => intro f _ _ h; omega
  | succ v ih =>
    intro f h14 hf h1 ht
    obtain ⟨f, rfl⟩ : ∃ m, f = m + 1 := ⟨f - 1, by omega⟩
    have g1 : Nat.gcd c K ∣ c := Nat.gcd_dvd_left c K
    have g2 : Nat.gcd c K ∣ K := Nat.gcd_dvd_right c K
    have g0 : 0 < Nat.gcd c K := Nat.gcd_pos_of_pos_right c hK0
    have gle : Nat.gcd c K ≤ v + 1 := by
      by_cases z : Nat.gcd c K ≤ v + 1
      · exact z
      · exact absurd ⟨g1, g2⟩ (ht _ (by omega))
    rw [lp_X4_commonDivisor_2]
    by_cases e1 : v = 0
    · subst e1
      rw [if_pos (by decide), show Nat.gcd c K = 1 by omega]
    · rw [l_1, if_neg (show ¬ nI (v + 1) ≤ nI 1 by rw [q_le (by omega) (by omega)]; omega), ck_n0 (by omega) (by omega)]
      have r1 : nI c - nI c / nI (v + 1) * nI (v + 1) = nI (c % (v + 1)) := by
        have := Nat.div_add_mod c (v + 1)
        have e : c / (v + 1) * (v + 1) = (v + 1) * (c / (v + 1)) := Nat.mul_comm _ _
        rw [pk_div (by omega) (by omega) (by omega), q_mul, q_sub (by omega), show c - c / (v + 1) * (v + 1) = c % (v + 1) by omega]
      have r2 : nI K - nI K / nI (v + 1) * nI (v + 1) = nI (K % (v + 1)) := by
        have := Nat.div_add_mod K (v + 1)
        have e : K / (v + 1) * (v + 1) = (v + 1) * (K / (v + 1)) := Nat.mul_comm _ _
        rw [pk_div (by omega) (by omega) (by omega), q_mul, q_sub (by omega), show K - K / (v + 1) * (v + 1) = K % (v + 1) by omega]
      have b1 := Nat.mod_lt c (show v + 1 > 0 by omega)
      have b2 := Nat.mod_lt K (show v + 1 > 0 by omega)
      simp (disch := omega) only [r1, r2, l_0, q_eq]
      have back : ¬ ((v + 1) ∣ c ∧ (v + 1) ∣ K) → lp_X4_commonDivisor_2 (nI c) (nI K) f (nI v) μ = some (nI (Nat.gcd c K), μ) := by
        intro z
        refine ih f (by omega) (by omega) (by omega) (fun t ht2 => ?_)
        by_cases e : t = v + 1
        · rw [e]; exact z
        · exact ht t (by omega)
      have dd : nI (v + 1) + (-nI 1) = nI v := dn_dec (v + 1)
      by_cases m1 : c % (v + 1) = 0
      · rw [if_pos m1, ck, if_pos (decide_eq_true (show ¬ v + 1 = 0 by omega))]
        by_cases m2 : K % (v + 1) = 0
        · rw [if_pos m2]
          have : v + 1 ∣ Nat.gcd c K := Nat.dvd_gcd (Nat.dvd_of_mod_eq_zero m1) (Nat.dvd_of_mod_eq_zero m2)
          have := Nat.le_of_dvd g0 this
          rw [show Nat.gcd c K = v + 1 by omega]
        · rw [if_neg m2, lt_eq, dd]
          exact back (fun z => m2 (Nat.mod_eq_zero_of_dvd z.2))
      · rw [if_neg m1, lt_eq, dd]
        exact back (fun z => m1 (Nat.mod_eq_zero_of_dvd z.1))
def n64 (n : Nat) : Int64 := (nI n).toInt64
theorem n64_rem : ∀ x y : Fin 15, y.1 ≠ 0 → n64 x.1 - n64 x.1 / n64 y.1 * n64 y.1 = n64 (x.1 % y.1) := by decide
theorem n64_div : ∀ x y : Fin 15, y.1 ≠ 0 → (nI x.1 / nI y.1).toInt64 = n64 x.1 / n64 y.1 := by decide
theorem n64_cmp : ∀ x : Fin 15, (lg_cmp (n64 x.1) 0 = 0) = (x.1 = 0) := by decide
theorem n64_ne : ∀ x : Fin 15, x.1 ≠ 0 → ¬ n64 x.1 = 0 := by decide
theorem n64_ck {R : Type} {n : Nat} {x : Option R} (h : 0 < n) (h2 : n ≤ 14) : ck (decide (¬ n64 n = 0)) x = x := by
  have : ¬ n64 n = 0 := n64_ne ⟨n, by omega⟩ (by simp only; omega)
  rw [ck, decide_eq_true this, if_pos rfl]
theorem m_lt6 {a0 a2 : Int64} {a4 : Int32} {μ : Mem} : ∀ (y x f : Nat), x ≤ 14 → y ≤ 14 → y < f → lp_X5_inLeastTerms_6 a0 a2 a4 f (n64 x) (n64 y) μ = some (n64 (Nat.gcd x y), μ) := by
  intro y
  induction y using Nat.strongRecOn with
  | ind y ih =>
    intro x f hx hy hf
    obtain ⟨f, rfl⟩ : ∃ m, f = m + 1 := ⟨f - 1, by omega⟩
    rw [lp_X5_inLeastTerms_6]
    have cm : (lg_cmp (n64 y) 0 = 0) = (y = 0) := n64_cmp ⟨y, by omega⟩
    by_cases e : y = 0
    · rw [if_pos (cm ▸ e), e, Nat.gcd_zero_right]
    · have rm : n64 x - n64 x / n64 y * n64 y = n64 (x % y) := n64_rem ⟨x, by omega⟩ ⟨y, by omega⟩ e
      have b := Nat.mod_lt x (show y > 0 by omega)
      rw [if_neg (cm ▸ e), n64_ck (by omega) hy, lt_eq, rm, ih (x % y) b y f hy (by omega) (by omega)]
      rw [Nat.gcd_comm x y, Nat.gcd_rec y x, Nat.gcd_comm]
theorem t_odds (z y : Int32) (μ : Mem) (h : Inv μ) : ∃ (r : Int64) (μ1 μ2 : Mem), f_X4_odds z y μ = some (r, μ1) ∧ f_X5_odds z y μ1 = some (r, μ2) ∧ Inv μ2 := by
  have hI' := h
  obtain ⟨⟨d, hI⟩, ht, hf⟩ := h
  have w := hI.1
  rcases ix7 (x := z) (n := 5) (by omega) with hz | ⟨s, hs, rfl⟩
  · exact ⟨-9223372036854775808, μ, μ, by simp only [f_X4_odds, (is_n hz).1, b2_some, e00, if_true], by simp only [f_X5_odds, (is_n hz).2, b2_some, e00, if_true], hI'⟩
  · rcases ix7 (x := y) (n := 2) (by omega) with hy | ⟨q, hq, rfl⟩
    · refine ⟨-9223372036854775808, μ, μ, ?_, ?_, hI'⟩
      · simp only [f_X4_odds, (is_y hs).1, b2_some, e10, if_false]
        rcases hy with hy | hy
        · rw [if_pos hy]
        · rw [if_neg (nn_of hy (by omega)), if_neg (Int32.not_le.mpr (by rw [l_1, le_succ (by omega)]; exact hy))]
      · have := wi_n (x := y) (lo := 0) (hi := 1) (μ := μ) (by rw [l_1, le_succ (by omega)]; exact hy)
        simp only [f_X5_odds, (is_y hs).2, b2_some, e10, if_false, this, e00, if_true]
    · have z0 : ∀ ν : Mem, f_X5_within (nI q) 0 1 ν = some (nI 1, ν) := fun ν => by rw [l_0, l_1, wi_j (by omega) (by omega) (by omega)]
      have z1 : nI q ≤ 1 := by rw [l_1, q_le (by omega) (by omega)]; omega
      obtain ⟨μ1, a0, a1, a2, a3, a4⟩ := c_aon hI
      obtain ⟨μ2, b0, b1', b2', b3', b4'⟩ := m_fbI a1
      obtain ⟨K, q1, q2, q3, q4, q5⟩ := PA_two w a2.2.2.2.2 b2'.2.2.2
      have fin : Inv μ2 := Inv_ab ht hf a3 a4 b1' b3' b4'
      have fin1 : Inv μ1 := Inv_ab ht hf a3 a4 a1 (fun _ _ _ => rfl) (fun _ _ => rfl)
      have w1 := w.1
      by_cases k0 : K = 0
      · have cA : f_X4_odds (nI s) (nI q) μ = some (-9223372036854775808, μ1) := by
          simp only [f_X4_odds, (is_y hs).1, b2_some, e10, if_false, nI_pos (show q < 2147483648 by omega), z1, if_true, a0, b1_some, lt_eq, q2, k0]
          rw [if_neg (by decide)]
        by_cases h0 : d 0 0 = 0
        · refine ⟨-9223372036854775808, μ1, μ1, cA, ?_, fin1⟩
          have e5 := a1.2.2.1.1
          rw [h0] at e5
          simp only [f_X5_odds, (is_y hs).2, b2_some, e10, if_false, z0, e5, e00, if_true]
        · refine ⟨-9223372036854775808, μ1, μ2, cA, ?_, fin⟩
          have n0 : ¬ nI (d 0 0) = 0 := nz (by omega) (by omega)
          have L := (q4.mp k0).resolve_right h0
          have o9 : orN (VV d (d 0 4) 0 0).1 = -9 := if_neg L
          simp only [f_X5_odds, (is_y hs).2, b2_some, e10, if_false, z0, a1.2.2.1.1, n0, b0, o9, if_true]
      · have h0 : d 0 0 ≠ 0 := fun e => k0 (q4.mpr (.inr e))
        have L : (VV d (d 0 4) 0 0).1 < 1000000 := by
          by_cases c : (VV d (d 0 4) 0 0).1 < 1000000
          · exact c
          · exact absurd (q4.mpr (.inl c)) k0
        have n0 : ¬ nI (d 0 0) = 0 := nz (by omega) (by omega)
        have n9 : ¬ orN (VV d (d 0 4) 0 0).1 = -9 := by
          rw [orN_n9 (by omega)]; omega
        have cK := Cn_le (srt d (d 0 4)) s K
        have gp : 0 < Nat.gcd (Cn (srt d (d 0 4)) s K) K := Nat.gcd_pos_of_pos_right _ (by omega)
        have gl : Nat.gcd (Cn (srt d (d 0 4)) s K) K ≤ K := Nat.le_of_dvd (by omega) (Nat.gcd_dvd_right _ _)
        have A1 : f_X0_howManyOf 14 (nI s) μ1 = some (nI (Cn (srt d (d 0 4)) s K), μ1) := by
          unfold f_X0_howManyOf
          have := c_hm4 (S := srt d (d 0 4)) hs q1 q2 (fun k hk => ⟨(q5 k hk).1.1, (q5 k hk).2.1.1⟩) K 0 FU (by omega) (by unfold FU; omega)
          rw [Cn] at this
          rw [show (0 : Int32) = nI 0 from rfl, this]; rfl
        have A2 : lp_X5_odds_43 (nI s) (nI q) FU 0 0 μ2 = some (nI (Cn (srt d (d 0 4)) s K), μ2) := by
          have := m_od43 (S := srt d (d 0 4)) (x2 := nI q) hs q1 q3 (fun k hk => ⟨(q5 k hk).1.1, (q5 k hk).2.2.1⟩) K 0 FU (by omega) (by unfold FU; omega)
          rw [Cn] at this
          exact this
        revert A1 A2 cK gp gl
        generalize Cn (srt d (d 0 4)) s K = c
        intro cK gp gl A1 A2
        have A3 : f_X4_commonDivisor (nI c) (nI K) μ1 = some (nI (Nat.gcd c K), μ1) := by
          unfold f_X4_commonDivisor
          rw [c_cd2 (by omega) q1 (by omega) K FU (by omega) (by unfold FU; omega) (by omega) (fun t ht2 z => by have := Nat.le_of_dvd (by omega) z.2; omega)]; rfl
        have A4 : ∀ q' : Int32, lp_X5_inLeastTerms_6 (nI c).toInt64 (nI K).toInt64 q' FU (nI c).toInt64 (nI K).toInt64 μ2 = some (n64 (Nat.gcd c K), μ2) := fun q' => m_lt6 K c FU (by omega) q1 (by unfold FU; omega)
        have cmain : f_X4_odds (nI s) (nI q) μ = if nI q = 0 then some ((nI c / nI (Nat.gcd c K)).toInt64, μ1) else some ((nI K / nI (Nat.gcd c K)).toInt64, μ1) := by
          simp (disch := omega) only [f_X4_odds, (is_y hs).1, b2_some, e10, if_false, nI_pos (show q < 2147483648 by omega), z1, if_true, a0, b1_some, lt_eq, q2, A1, A3, ck_n0]
          rw [if_pos (show (1 : Int32) ≤ nI K by rw [l_1, q_le (by omega) (by omega)]; omega)]
        have mmain : f_X5_odds (nI s) (nI q) μ1 = if nI q = 0 then some (n64 c / n64 (Nat.gcd c K), μ2) else some (n64 K / n64 (Nat.gcd c K), μ2) := by
          simp (disch := omega) only [f_X5_odds, (is_y hs).2, b2_some, e10, if_false, z0, a1.2.2.1.1, n0, b0, n9, A2, q3, f_X5_inLeastTerms, A4, n64_ck]
          split <;> rfl
        rw [cmain]
        have t1 : (nI c / nI (Nat.gcd c K)).toInt64 = n64 c / n64 (Nat.gcd c K) := n64_div ⟨c, by omega⟩ ⟨Nat.gcd c K, by omega⟩ (by simp only; omega)
        have t2 : (nI K / nI (Nat.gcd c K)).toInt64 = n64 K / n64 (Nat.gcd c K) := n64_div ⟨K, by omega⟩ ⟨Nat.gcd c K, by omega⟩ (by simp only; omega)
        rw [t1, t2]
        by_cases e : nI q = 0
        · exact ⟨_, μ1, μ2, if_pos e, by rw [mmain, if_pos e], fin⟩
        · exact ⟨_, μ1, μ2, if_neg e, by rw [mmain, if_neg e], fin⟩
