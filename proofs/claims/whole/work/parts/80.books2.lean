def TX (k i n : Nat) (V : Nat → Int32) (μ : Mem) : Prop := ∀ t, t < n → μ (36 + 2 * k) (i + t) = V t
def TN (p n : Nat) (V : Nat → Int32) (ν : Mem) : Prop := ∀ t, t < n → ν 46 (p + t) = V t
theorem TX_f {k i n : Nat} {V : Nat → Int32} {μ μ' : Mem} (h : TX k i n V μ) (f : FC μ' μ) : TX k i n V μ' := fun t ht => by rw [f _ (by omega) (by omega)]; exact h t ht
theorem TN_f {p n : Nat} {V : Nat → Int32} {ν ν' : Mem} (h : TN p n V ν) (f : FM ν' ν) : TN p n V ν' := fun t ht => by rw [f.1 46 (by omega) (by omega)]; exact h t ht
def Lp (k i n f t : Nat) (μ : Mem) : Option (Mem ⊕ (Int32 × Mem)) := lp_X3_firstFault_13 (35 + 2 * k) (nI i) (nI n) 8 f (nI t) μ
theorem Lp_s {k i n f t : Nat} {V : Nat → Int32} {μ : Mem} (hi : i + n ≤ 60) (ht : t < n) (h : TX k i n V μ) : Lp k i n (f + 1) t μ = b2 (f_X3_goesOn (V t) 8 μ) fun x4 μ3 => if x4 = 0 then some (.inr (nI t, μ3)) else Lp k i n f (t + 1) μ3 := by
  unfold Lp
  rw [lp_X3_firstFault_13, if_neg (show ¬ nI n ≤ nI t by rw [q_le (by omega) (by omega)]; omega), q_add, q_ck (by omega) (by omega), q_cl (by omega), show 35 + 2 * k + 1 = 36 + 2 * k by omega, h t ht]
  simp only [lt_eq, l_1, q_add]
theorem Lp_e {k i n f : Nat} {μ : Mem} : Lp k i n (f + 1) n μ = some (.inl μ) := by
  unfold Lp
  rw [lp_X3_firstFault_13, if_pos (Int32.le_refl _)]
def CF (n : Nat) (o : Option (Mem ⊕ (Int32 × Mem))) (t' : Nat) (μ' : Mem) : Prop := o = some (.inr (nI t', μ')) ∨ (t' = n ∧ o = some (.inl μ') ∧ ∃ s, s ≤ 7 ∧ μ' 32 0 = nI s)
def FL (n p : Nat) (CO : Option (Mem ⊕ (Int32 × Mem))) (MO : Option (Int32 × Mem)) (μ ν : Mem) : Prop := ∃ t' μ' ν', t' ≤ n ∧ CF n CO t' μ' ∧ MO = some (nI 0, ν') ∧ ν' 43 15 = nI (p + t') ∧ FC μ' μ ∧ FM ν' ν
theorem bk_sen {k i n p t f x N st0 sl c1 c2 st2 : Nat} {V : Nat → Int32} {μ ν : Mem} (hi : i + n ≤ 60) (hp : p + n ≤ 240) (hx : x < 14) (hst : st0 ≤ 6) (hc : 9 ≤ c1 ∧ c1 ≤ 13 ∧ 9 ≤ c2 ∧ c2 ≤ 13)
    (G1 : ∀ (v : Int32) (μ : Mem), μ 32 0 = nI st0 → μ 8 sl = nI N → (∀ g, 1 ≤ g → g ≤ 9 → v = nI (48 + g) → f_X3_goesOn v 8 μ = some (nI 1, up (up μ 32 0 (nI (st0 + 1))) c1 N (nI g))) ∧ ((v < 49 ∨ 57 < v) → ∃ μ', f_X3_goesOn v 8 μ = some (nI 0, μ') ∧ FC μ' μ))
    (G2 : ∀ (v : Int32) (μ : Mem), μ 32 0 = nI (st0 + 1) → μ 8 sl = nI N → (∀ g, g ≤ 4 → anc v g → f_X3_goesOn v 8 μ = some (nI 1, up (up (up μ 32 0 (nI st2)) c2 N (nI g)) 8 sl (nI (N + 1)))) ∧ ((v ≠ 45 ∧ (v < 97 ∨ 100 < v)) → ∃ μ', f_X3_goesOn v 8 μ = some (nI 0, μ') ∧ FC μ' μ))
    (ht : t ≤ n) (hf : n - t + 2 < f) (h32 : μ 32 0 = nI st0) (hsl : μ 8 sl = nI N) (hX : TX k i n V μ) (h15 : ν 43 15 = nI (p + t)) (hM : TN p n V ν) :
    FL n p (Lp k i n f t μ) (f_X5_readSentence (nI (p + n)) (nI x) ν) μ ν ∨ ∃ g1 g2 f', 1 ≤ g1 ∧ g1 ≤ 9 ∧ g2 ≤ 4 ∧ t + 2 ≤ n ∧ f = f' + 2 ∧ Lp k i n f t μ = Lp k i n f' (t + 2) (up (up (up (up (up μ 32 0 (nI (st0 + 1))) c1 N (nI g1)) 32 0 (nI st2)) c2 N (nI g2)) 8 sl (nI (N + 1))) ∧ f_X5_readSentence (nI (p + n)) (nI x) ν = some (nI 1, up (up (up (up ν 53 x (nI g1)) 43 15 (nI (p + (t + 1)))) 54 x (nI g2)) 43 15 (nI (p + (t + 2)))) := by
  obtain ⟨f, rfl⟩ : ∃ m, f = m + 2 := ⟨f - 2, by omega⟩
  by_cases c : t < n
  · have e0 : ¬ nI (p + n) ≤ nI (p + t) := by rw [q_le (by omega) (by omega)]; omega
    rcases dg_c (V t) with ⟨g1, a1, a2, a3⟩ | a
    · have wd : ∀ m : Mem, f_X5_within (V t) 49 57 m = some (nI 1, m) := fun m => by rw [a3, show (49 : Int32) = nI 49 from rfl, show (57 : Int32) = nI 57 from rfl, wi_j (by omega) (by omega) (by omega)]
      have s1' : Lp k i n (f + 2) t μ = Lp k i n (f + 1) (t + 1) (up (up μ 32 0 (nI (st0 + 1))) c1 N (nI g1)) := by
        rw [Lp_s hi c hX, (G1 (V t) μ h32 hsl).1 g1 a1 a2 a3, b2_some, if_neg (e10 ▸ not_false)]
      have F1 : FC (up (up μ 32 0 (nI (st0 + 1))) c1 N (nI g1)) μ := FC_u (FC_u (FC_r _) (by omega)) (by omega)
      have M1 : FM (up (up ν 53 x (nI g1)) 43 15 (nI (p + (t + 1)))) ν := FM_v (FM_u (FM_r _) (by omega)) (by omega)
      have R1 : f_X5_readSentence (nI (p + n)) (nI x) ν = (if nI (p + n) ≤ nI (p + (t + 1)) then some (nI 0, up (up ν 53 x (nI g1)) 43 15 (nI (p + (t + 1)))) else ck (inb (nI (p + (t + 1))) 240) (if up (up ν 53 x (nI g1)) 43 15 (nI (p + (t + 1))) 46 (p + (t + 1)) = 45 then jn_X5_readSentence_100 (nI x) (up (up ν 53 x (nI g1)) 43 15 (nI (p + (t + 1)))) else ck (inb (nI (p + (t + 1))) 240) (b2 (f_X5_within (up (up ν 53 x (nI g1)) 43 15 (nI (p + (t + 1))) 46 (p + (t + 1))) 97 100 (up (up ν 53 x (nI g1)) 43 15 (nI (p + (t + 1))))) fun x10 μ9 => if x10 = 0 then some (0, μ9) else jn_X5_readSentence_100 (nI x) μ9))) := by
        have u15 : up ν 53 x (nI g1) 43 15 = nI (p + t) := by rw [up_ne (by omega)]; exact h15
        have at15 : up (up ν 53 x (nI g1)) 43 15 (nI (p + (t + 1))) 43 15 = nI (p + (t + 1)) := up_at _ _ _ _
        rw [f_X5_readSentence, h15, if_neg e0, q_ck (by omega) (by omega), q_cl (by omega), hM t c, wd, b2_some, if_neg (e10 ▸ not_false), h15, q_ck (by omega) (by omega), q_ck hx (by omega), q_cl (by omega), q_cl (by omega), hM t c, a3, t48, q_sub (by omega), show 48 + g1 - 48 = g1 by omega, lt_eq, lt_eq, u15, l_1, q_add, show p + t + 1 = p + (t + 1) by omega, at15, q_cl (by omega)]
        rfl
      by_cases c' : t + 1 < n
      · have e1 : ¬ nI (p + n) ≤ nI (p + (t + 1)) := by rw [q_le (by omega) (by omega)]; omega
        have V1 : up (up ν 53 x (nI g1)) 43 15 (nI (p + (t + 1))) 46 (p + (t + 1)) = V (t + 1) := by rw [up_ne (by omega), up_ne (by omega)]; exact hM (t + 1) c'
        rw [if_neg e1, q_ck (by omega) (by omega), q_ck (by omega) (by omega), V1] at R1
        have G := G2 (V (t + 1)) (up (up μ 32 0 (nI (st0 + 1))) c1 N (nI g1)) (by rw [up_ne (by omega), up_at]) (by rw [up_ne (by omega), up_ne (by omega)]; exact hsl)
        have Ls := Lp_s (f := f) hi c' (TX_f hX F1)
        rcases an_c (V (t + 1)) with ⟨g2, b1, b2⟩ | b
        · refine .inr ⟨g1, g2, f, a1, a2, b1, by omega, rfl, ?_, ?_⟩
          · rw [s1', Ls, G.1 g2 b1 b2, b2_some, if_neg (e10 ▸ not_false)]
          · rw [R1]
            have J : jn_X5_readSentence_100 (nI x) (up (up ν 53 x (nI g1)) 43 15 (nI (p + (t + 1)))) = some (nI 1, up (up (up (up ν 53 x (nI g1)) 43 15 (nI (p + (t + 1)))) 54 x (nI g2)) 43 15 (nI (p + (t + 2)))) := by
              have z15 : up (up (up ν 53 x (nI g1)) 43 15 (nI (p + (t + 1)))) 54 x (nI g2) 43 15 = nI (p + (t + 1)) := by rw [up_ne (by omega), up_at]
              rw [jn_X5_readSentence_100, up_at, q_ck (by omega) (by omega), q_cl (by omega), V1]
              rcases b2 with ⟨b2, rfl⟩ | ⟨b3, b2⟩
              · rw [if_pos (show V (t + 1) = 45 from b2), q_ck hx (by omega), lt_eq, lt_eq, q_cl (by omega), show (4 : Int32) = nI 4 from rfl, z15, show (1 : Int32) = nI 1 from rfl, q_add, show p + (t + 1) + 1 = p + (t + 2) by omega]
              · rw [if_neg (by rw [b2, fa_eq, nI_toInt (by omega), t45]; omega), q_ck (by omega) (by omega), q_ck hx (by omega), lt_eq, lt_eq, q_cl (by omega), b2, t97, q_sub (by omega), show 97 + g2 - 97 = g2 by omega, z15, show (1 : Int32) = nI 1 from rfl, q_add, show p + (t + 1) + 1 = p + (t + 2) by omega]
            rcases b2 with ⟨b2, b3⟩ | ⟨b3, b2⟩
            · rw [if_pos (show V (t + 1) = 45 from b2), J]
            · have w97 : ∀ m : Mem, f_X5_within (V (t + 1)) 97 100 m = some (nI 1, m) := fun m => by rw [b2, t97, show (100 : Int32) = nI 100 from rfl, wi_j (by omega) (by omega) (by omega)]
              rw [if_neg (by rw [b2, fa_eq, nI_toInt (by omega), t45]; omega), w97, b2_some, if_neg (e10 ▸ not_false), J]
        · obtain ⟨μ', g1', g2'⟩ := G.2 b
          refine .inl ⟨t + 1, μ', _, by omega, .inl ?_, ?_, up_at _ _ _ _, FC_t g2' F1, M1⟩
          · rw [s1', Ls, g1', b2_some, if_pos (e00 ▸ trivial)]
          · rw [R1, if_neg b.1, wi_n b.2, b2_some, if_pos (e00 ▸ trivial)]; rfl
      · have e1 : nI (p + n) ≤ nI (p + (t + 1)) := by rw [q_le (by omega) (by omega)]; omega
        rw [if_pos e1] at R1
        have tn : t + 1 = n := by omega
        refine .inl ⟨t + 1, _, _, by omega, .inr ⟨tn, by rw [s1', tn]; exact Lp_e, st0 + 1, by omega, by rw [up_ne (by omega), up_at]⟩, R1, up_at _ _ _ _, F1, M1⟩
    · obtain ⟨μ', g1', g2'⟩ := (G1 (V t) μ h32 hsl).2 a
      refine .inl ⟨t, μ', ν, ht, .inl ?_, ?_, h15, g2', FM_r _⟩
      · rw [Lp_s hi c hX, g1', b2_some, if_pos (e00 ▸ trivial)]
      · rw [f_X5_readSentence, h15, if_neg e0, q_ck (by omega) (by omega), q_cl (by omega), hM t c, wi_n a, b2_some, if_pos (e00 ▸ trivial)]; rfl
  · have tn : t = n := by omega
    subst tn
    refine .inl ⟨t, μ, ν, Nat.le_refl _, .inr ⟨rfl, Lp_e, st0, by omega, h32⟩, ?_, h15, FC_r _, FM_r _⟩
    rw [f_X5_readSentence, h15, if_pos (Int32.le_refl _)]; rfl
