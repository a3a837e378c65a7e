theorem mmin_n {a b : Nat} (ha : a < 2147483648) (hb : b < 2147483648) : mmin (nI a) (nI b) = nI (min a b) := by
  unfold mmin
  simp (disch := omega) only [q_lt]
  split
  · rw [Nat.min_eq_right (by omega)]
  · rw [Nat.min_eq_left (by omega)]
def TO (al : Nat) (μ : Mem) (d : BD) (T : Nat → Nat → Q4) (a b : Nat) : Prop := ∀ s, s < 5 → avl d s a b → μ (al + 2) (8 * (a + dl s) + (b + dr s)) = nI (T (a + dl s) (b + dr s)).1 ∧ μ (al + 3) (8 * (a + dl s) + (b + dr s)) = nI (T (a + dl s) (b + dr s)).2.1 ∧ μ (al + 4) (8 * (a + dl s) + (b + dr s)) = nI (T (a + dl s) (b + dr s)).2.2.1 ∧ (T (a + dl s) (b + dr s)).1 ≤ 1000000 ∧ (T (a + dl s) (b + dr s)).2.1 ≤ 1000000 ∧ (T (a + dl s) (b + dr s)).2.2.1 ≤ 10000000
theorem N2_le {d : BD} {T : Nat → Nat → Q4} {a b F : Nat} : ∀ n, N2 d T a b F n ≤ 1000000
  | 0 => Nat.le_refl _
  | n + 1 => by
    have ih := N2_le (d := d) (T := T) (a := a) (b := b) (F := F) n
    show (if _ then _ else _) ≤ _
    split
    · exact Nat.le_trans (Nat.min_le_left _ _) ih
    · exact ih
theorem A2_le {d : BD} {T : Nat → Nat → Q4} {a b L : Nat} (h : ∀ s, s < 5 → avl d s a b → (T (a + dl s) (b + dr s)).2.2.1 ≤ 10000000) : ∀ n, n ≤ 5 → A2 d T a b L n ≤ 10000000 * n
  | 0, _ => Nat.zero_le _
  | n + 1, hn => by
    have ih := A2_le (L := L) h n (by omega)
    show _ + (if _ then _ else _) ≤ _
    split
    · rename_i hv
      have := h n (by omega) hv.1
      omega
    · omega
theorem c_fo44 {al a b L F e0 : Nat} {d : BD} {T : Nat → Nat → Q4} (hal : isAl al) (w : WFd d) (ha : a ≤ d 0 0) (hb : b ≤ d 0 1) (hL : L ≤ 1000000) (hF : F < 5 ∨ ∀ s, s < 5 → ¬ avl d s a b) (he0 : e0 ≤ 1) : ∀ (k n f : Nat) (μ : Mem), n + k = 5 → k < f → PC al μ d → TO al μ d T a b → μ (al + 2) (8 * a + b) = nI L → (F < 5 → μ (al + 5) (8 * a + b) = nI F) → μ (al + 3) (8 * a + b) = nI (N2 d T a b F n) → μ (al + 4) (8 * a + b) = nI (e0 + A2 d T a b L n) →
    ∃ μ', lp_X0_fillOthersAt_44 al (nI (8 * a + b)) f (nI n) μ = some μ' ∧ (∀ c, c ≠ al + 3 → c ≠ al + 4 → μ' c = μ c) ∧ (∀ i, i ≠ 8 * a + b → μ' (al + 3) i = μ (al + 3) i ∧ μ' (al + 4) i = μ (al + 4) i) ∧ μ' (al + 3) (8 * a + b) = nI (N2 d T a b F 5) ∧ μ' (al + 4) (8 * a + b) = nI (e0 + A2 d T a b L 5) := by
  have w1 := w.1
  have w2 := w.2.1
  intro k
  induction k with
  | zero =>
    intro n f μ hs hn hpc hto h2 h5 h3 h4
    obtain ⟨f, rfl⟩ : ∃ m, f = m + 1 := ⟨f - 1, by omega⟩
    have : n = 5 := by omega
    subst this
    refine ⟨μ, ?_, fun _ _ _ => rfl, fun _ _ => ⟨rfl, rfl⟩, h3, h4⟩
    simp (disch := omega) only [lp_X0_fillOthersAt_44, l_5, Nat.le_refl, q_le, if_true]
  | succ k ih =>
    intro n f μ hs hn hpc hto h2 h5 h3 h4
    obtain ⟨f, rfl⟩ : ∃ m, f = m + 1 := ⟨f - 1, by omega⟩
    have hn5 : n < 5 := by omega
    have hp := hpc n a b hn5 ha hb
    have hi : n * 64 + (8 * a + b) = 64 * n + 8 * a + b := by omega
    have hN := N2_le (d := d) (T := T) (a := a) (b := b) (F := F) n
    have hA := A2_le (L := L) (fun s x y => (hto s x y).2.2.2.2.2) n (by omega)
    by_cases hv : a + dl n ≤ d 0 0 ∧ b + dr n ≤ d 0 1
    · have hpv : pcv d n a b = cst d n a b := by unfold pcv; rw [if_pos hv]
      have hc := cst_le w hn5 hv
      obtain ⟨t1, t2, t3, t4, t5, t6⟩ := hto n hn5 hv
      have hF5 : F < 5 := by
        rcases hF with z | z
        · exact z
        · exact absurd hv (z n hn5)
      have h5' := h5 hF5
      have hv1 := hv.1
      have hv2 := hv.2
      have := dlr n hn5
      have hj : 8 * a + b + (8 * dl n + dr n) = 8 * (a + dl n) + (b + dr n) := by omega
      have hne : 8 * (a + dl n) + (b + dr n) ≠ 8 * a + b := by omega
      have hN2 : N2 d T a b F (n + 1) = min (N2 d T a b F n) (if n = F then cst d n a b + (T (a + dl n) (b + dr n)).2.1 else cst d n a b + (T (a + dl n) (b + dr n)).1) := by
        show (if _ then _ else _) = _
        rw [if_pos hv]
      have hA2 : A2 d T a b L (n + 1) = A2 d T a b L n + (if cst d n a b + (T (a + dl n) (b + dr n)).1 = L then (T (a + dl n) (b + dr n)).2.2.1 else 0) := by
        show _ + (if _ then _ else _) = _
        simp only [hv, and_self, true_and]
      have hstep : ∃ μ1, f_X0_addOthers al (nI (8 * a + b)) (nI n) (nI (cst d n a b)) (nI (8 * (a + dl n) + (b + dr n))) μ = some μ1 ∧ (∀ c, c ≠ al + 3 → c ≠ al + 4 → μ1 c = μ c) ∧ (∀ i, i ≠ 8 * a + b → μ1 (al + 3) i = μ (al + 3) i ∧ μ1 (al + 4) i = μ (al + 4) i) ∧ μ1 (al + 3) (8 * a + b) = nI (N2 d T a b F (n + 1)) ∧ μ1 (al + 4) (8 * a + b) = nI (e0 + A2 d T a b L (n + 1)) := by
        rw [hN2, hA2]
        by_cases c1 : cst d n a b + (T (a + dl n) (b + dr n)).1 = L
        · rw [if_pos c1]
          by_cases c2 : n = F
          · subst c2
            rw [if_pos rfl]
            refine ⟨up (up μ (al + 4) (8 * a + b) (nI (e0 + A2 d T a b L n + (T (a + dl n) (b + dr n)).2.2.1))) (al + 3) (8 * a + b) (nI (min (N2 d T a b n n) (cst d n a b + (T (a + dl n) (b + dr n)).2.1))), ?_, fun c x y => by rw [up_ne x, up_ne y], fun i x => ⟨by rw [up_ot x, up_ne (by omega)], by rw [up_ne (by omega), up_ot x]⟩, up_at _ _ _ _, by rw [up_ne (by omega), up_at, Nat.add_assoc]⟩
            simp (disch := omega) only [f_X0_addOthers, q_ck, q_cl, t1, q_add, lt_eq, h2, q_eq, c1, if_true, h4, t3, jn_X0_addOthers_38, up_ne, h5', t2, jn_X0_addOthers_62, h3, mmin_n]
          · rw [if_neg c2]
            refine ⟨up (up μ (al + 4) (8 * a + b) (nI (e0 + A2 d T a b L n + (T (a + dl n) (b + dr n)).2.2.1))) (al + 3) (8 * a + b) (nI (min (N2 d T a b F n) L)), ?_, fun c x y => by rw [up_ne x, up_ne y], fun i x => ⟨by rw [up_ot x, up_ne (by omega)], by rw [up_ne (by omega), up_ot x]⟩, by rw [up_at, c1], by rw [up_ne (by omega), up_at, Nat.add_assoc]⟩
            simp (disch := omega) only [f_X0_addOthers, q_ck, q_cl, t1, q_add, lt_eq, h2, q_eq, c1, if_true, h4, t3, jn_X0_addOthers_38, up_ne, h5', c2, if_false, jn_X0_addOthers_62, h3, mmin_n]
        · rw [if_neg c1]
          by_cases c2 : n = F
          · subst c2
            rw [if_pos rfl]
            refine ⟨up μ (al + 3) (8 * a + b) (nI (min (N2 d T a b n n) (cst d n a b + (T (a + dl n) (b + dr n)).2.1))), ?_, fun c x y => by rw [up_ne x], fun i x => ⟨by rw [up_ot x], by rw [up_ne (by omega)]⟩, up_at _ _ _ _, by rw [up_ne (by omega)]; exact h4⟩
            simp (disch := omega) only [f_X0_addOthers, q_ck, q_cl, t1, q_add, lt_eq, h2, q_eq, c1, if_false, jn_X0_addOthers_38, h5', if_true, t2, jn_X0_addOthers_62, h3, mmin_n]
          · rw [if_neg c2]
            refine ⟨up μ (al + 3) (8 * a + b) (nI (min (N2 d T a b F n) (cst d n a b + (T (a + dl n) (b + dr n)).1))), ?_, fun c x y => by rw [up_ne x], fun i x => ⟨by rw [up_ot x], by rw [up_ne (by omega)]⟩, up_at _ _ _ _, by rw [up_ne (by omega)]; exact h4⟩
            simp (disch := omega) only [f_X0_addOthers, q_ck, q_cl, t1, q_add, lt_eq, h2, q_eq, c1, if_false, jn_X0_addOthers_38, h5', c2, jn_X0_addOthers_62, h3, mmin_n]
      obtain ⟨μ1, s1, s2, s3, s4, s5⟩ := hstep
      obtain ⟨μ', e1, e2, e3, e4, e5⟩ := ih (n + 1) f μ1 (by omega) (by omega) (fun s x y z1 z2 z3 => by rw [s2 _ (by omega) (by omega)]; exact hpc s x y z1 z2 z3)
        (fun s x y => by
          have y1 := y.1
          have y2 := y.2
          have := dlr s x
          have hne2 : 8 * (a + dl s) + (b + dr s) ≠ 8 * a + b := by omega
          obtain ⟨z1, z2⟩ := s3 _ hne2
          rw [s2 _ (by omega) (by omega), z1, z2]
          exact hto s x y) (by rw [s2 _ (by omega) (by omega)]; exact h2) (fun z => by rw [s2 _ (by omega) (by omega)]; exact h5 z) s4 s5
      refine ⟨μ', ?_, fun c x y => (e2 c x y).trans (s2 c x y), fun i x => ⟨(e3 i x).1.trans (s3 i x).1, (e3 i x).2.trans (s3 i x).2⟩, e4, e5⟩
      rw [← e1]
      simp (disch := omega) only [lp_X0_fillOthersAt_44, l_5, q_le, show ¬ 5 ≤ n by omega, if_false, l_64, q_mul, q_add, hi, q_ck, q_cl, hp, hpv, lt_eq, l_m, show ¬ 1000000 ≤ cst d n a b by omega, stv2, hj, s1, b1_some, l_1]
    · have hpv : pcv d n a b = 1000000 := by unfold pcv; rw [if_neg hv]
      have hN2 : N2 d T a b F (n + 1) = N2 d T a b F n := by
        show (if _ then _ else _) = _
        rw [if_neg hv]
      have hA2 : A2 d T a b L (n + 1) = A2 d T a b L n := by
        show _ + (if _ then _ else _) = _
        rw [if_neg (fun z => hv z.1)]; omega
      obtain ⟨μ', e1, e2⟩ := ih (n + 1) f μ (by omega) (by omega) hpc hto h2 h5 (by rw [hN2]; exact h3) (by rw [hA2]; exact h4)
      refine ⟨μ', ?_, e2⟩
      rw [← e1]
      simp (disch := omega) only [lp_X0_fillOthersAt_44, l_5, q_le, show ¬ 5 ≤ n by omega, if_false, l_64, q_mul, q_add, hi, q_ck, q_cl, hp, hpv, lt_eq, l_m, Nat.le_refl, if_true, l_1]
theorem c_fillOthersAt {al a b wb : Nat} {d : BD} {μ : Mem} (hal : isAl al) (w : WFd d) (ha : a ≤ d 0 0) (hb : b ≤ d 0 1) (h8 : μ al 8 = nI (d 0 0)) (h9 : μ al 9 = nI (d 0 1)) (hpc : PC al μ d)
    (hlt : ∀ a' b', a' ≤ d 0 0 → b' ≤ d 0 1 → μ (al + 2) (8 * a' + b') = nI (VV d wb a' b').1 ∧ ((VV d wb a' b').1 < 1000000 → ¬ (a' = d 0 0 ∧ b' = d 0 1) → μ (al + 5) (8 * a' + b') = nI (VV d wb a' b').2.2.2))
    (hdn : ∀ s, s < 5 → avl d s a b → μ (al + 3) (8 * (a + dl s) + (b + dr s)) = nI (VV d wb (a + dl s) (b + dr s)).2.1 ∧ μ (al + 4) (8 * (a + dl s) + (b + dr s)) = nI (VV d wb (a + dl s) (b + dr s)).2.2.1) :
    ∃ μ', f_X0_fillOthersAt al (nI (8 * a + b)) μ = some μ' ∧ (∀ c, c ≠ al + 3 → c ≠ al + 4 → μ' c = μ c) ∧ (∀ i, i ≠ 8 * a + b → μ' (al + 3) i = μ (al + 3) i ∧ μ' (al + 4) i = μ (al + 4) i) ∧ μ' (al + 3) (8 * a + b) = nI (VV d wb a b).2.1 ∧ μ' (al + 4) (8 * a + b) = nI (VV d wb a b).2.2.1 := by
  have w1 := w.1
  have w2 := w.2.1
  obtain ⟨k2, k5⟩ := hlt a b ha hb
  have hle := VV_le (w := wb) w ha hb
  have hG := VV_Gd (w := wb) w _ a b ha hb rfl
  have htg : TG d (VV d wb) a b ((d 0 0 - a) + (d 0 1 - b)) := by
    intro s hs hv
    have := dlr s hs
    have hv1 := hv.1
    have hv2 := hv.2
    exact ⟨(d 0 0 - (a + dl s)) + (d 0 1 - (b + dr s)), _, by omega, VV_Gd w _ _ _ hv.1 hv.2 rfl⟩
  have hto : ∀ ν : Mem, (∀ c, c ≠ al + 3 → c ≠ al + 4 → ν c = μ c) → (∀ i, i ≠ 8 * a + b → ν (al + 3) i = μ (al + 3) i ∧ ν (al + 4) i = μ (al + 4) i) → TO al ν d (VV d wb) a b := by
    intro ν n1 n2 s hs hv
    have := dlr s hs
    have hv1 := hv.1
    have hv2 := hv.2
    have hne : 8 * (a + dl s) + (b + dr s) ≠ 8 * a + b := by omega
    obtain ⟨z1, z2⟩ := n2 _ hne
    obtain ⟨y1, y2⟩ := hdn s hs hv
    rw [n1 _ (by omega) (by omega), z1, z2]
    have hg := VV_Gd (w := wb) w _ _ _ hv.1 hv.2 rfl
    have hp : 3 ^ ((d 0 0 - (a + dl s)) + (d 0 1 - (b + dr s))) ≤ 3 ^ 14 := Nat.pow_le_pow_right (by decide) (by omega)
    have hp2 : (3 : Nat) ^ 14 = 4782969 := by decide
    refine ⟨(hlt _ _ hv.1 hv.2).1, y1, y2, VV_le w hv.1 hv.2, ?_, ?_⟩
    · rcases hg with z | z
      · omega
      · rcases z.2.2.1 with q | q <;> omega
    · rcases hg with z | z
      · omega
      · have := z.2.1; omega
  have hbase : f_X0_fillOthersAt al (nI (8 * a + b)) μ = (if (VV d wb a b).1 < 1000000 then (if 8 * a + b = 8 * d 0 0 + d 0 1 then jn_X0_fillOthersAt_42 al (nI (8 * a + b)) (up (up (up μ (al + 3) (8 * a + b) (nI 1000000)) (al + 4) (8 * a + b) (nI 0)) (al + 4) (8 * a + b) (nI 1)) else jn_X0_fillOthersAt_42 al (nI (8 * a + b)) (up (up μ (al + 3) (8 * a + b) (nI 1000000)) (al + 4) (8 * a + b) (nI 0))) else some (up (up μ (al + 3) (8 * a + b) (nI 1000000)) (al + 4) (8 * a + b) (nI 0))) := by
    have g8 : (up (up μ (al + 3) (8 * a + b) (nI 1000000)) (al + 4) (8 * a + b) (nI 0)) al 8 = nI (d 0 0) := by rw [up_ne (by omega), up_ne (by omega)]; exact h8
    have g9 : (up (up μ (al + 3) (8 * a + b) (nI 1000000)) (al + 4) (8 * a + b) (nI 0)) al 9 = nI (d 0 1) := by rw [up_ne (by omega), up_ne (by omega)]; exact h9
    simp (disch := omega) only [f_X0_fillOthersAt, q_ck, q_cl, lt_eq, l_m, l_0, l_1, up_ne, k2, q_lt, c_end w g8 g9, b2_some, q_eq]
  rw [hbase]
  by_cases hi : (VV d wb a b).1 < 1000000
  · rw [if_pos hi]
    have hin : a ≤ b + wb ∧ b ≤ a + wb := by
      have h1 := VV_1 (w := wb) w ha hb
      by_cases z : a ≤ b + wb ∧ b ≤ a + wb
      · exact z
      · rw [if_neg z] at h1; omega
    by_cases he : a = d 0 0 ∧ b = d 0 1
    · rw [if_pos (by omega)]
      have hve : VV d wb a b = (0, 1000000, 1, 0) := by
        rw [VV_eq w ha hb]
        unfold stq
        rw [if_pos hin, if_pos he]
      have hna : ∀ s, s < 5 → ¬ avl d s a b := by
        intro s hs hv
        have := dlr s hs
        have hv1 := hv.1
        have hv2 := hv.2
        omega
      obtain ⟨μ', e1, e2, e3, e4, e5⟩ := c_fo44 (al := al) (a := a) (b := b) (L := 0) (F := 5) (e0 := 1) (d := d) (T := VV d wb) hal w ha hb (by omega) (Or.inr hna) (by omega) 5 0 FU (up (up (up μ (al + 3) (8 * a + b) (nI 1000000)) (al + 4) (8 * a + b) (nI 0)) (al + 4) (8 * a + b) (nI 1)) rfl (by decide)
        (fun s x y z1 z2 z3 => by rw [up_ne (by omega), up_ne (by omega), up_ne (by omega)]; exact hpc s x y z1 z2 z3) (hto _ (fun c x y => by rw [up_ne y, up_ne y, up_ne x]) (fun i x => ⟨by rw [up_ne (by omega), up_ne (by omega), up_ot x], by rw [up_ot x, up_ot x, up_ne (by omega)]⟩))
        (by rw [up_ne (by omega), up_ne (by omega), up_ne (by omega), k2, hve]) (fun z => absurd z (by decide)) (by rw [up_ne (by omega), up_ne (by omega), up_at]; rfl) (by rw [up_at]; rfl)
      have hA : A2 d (VV d wb) a b 0 5 = 0 := A2_zero 5 (fun s hs hv => absurd hv (hna s hs))
      have hN : ∀ n, n ≤ 5 → N2 d (VV d wb) a b 5 n = 1000000 := by
        intro n
        induction n with
        | zero => intro _; rfl
        | succ n ih =>
          intro hn
          show (if _ then _ else _) = _
          rw [if_neg (show ¬ (a + dl n ≤ d 0 0 ∧ b + dr n ≤ d 0 1) from hna n (by omega))]
          exact ih (by omega)
      refine ⟨μ', ?_, fun c x y => (e2 c x y).trans (by rw [up_ne y, up_ne y, up_ne x]), fun i x => ⟨(e3 i x).1.trans (by rw [up_ne (by omega), up_ne (by omega), up_ot x]), (e3 i x).2.trans (by rw [up_ot x, up_ot x, up_ne (by omega)])⟩, ?_, ?_⟩
      · simp only [jn_X0_fillOthersAt_42, l_0, e1, b1_some]
      · rw [e4, hN 5 (Nat.le_refl _), hve]
      · rw [e5, hA, hve]
    · rw [if_neg (by omega)]
      have hF := VV_F w ha hb hin he
      obtain ⟨-, i2, i3, -⟩ := fdq_FI w (by omega) htg 5 (Nat.le_refl _)
      rw [← hF] at i2 i3
      obtain ⟨j1, j2, -⟩ := i2 hi
      obtain ⟨j3, j4⟩ := i3 hi
      obtain ⟨μ', e1, e2, e3, e4, e5⟩ := c_fo44 (al := al) (a := a) (b := b) (L := (VV d wb a b).1) (F := (VV d wb a b).2.2.2) (e0 := 0) (d := d) (T := VV d wb) hal w ha hb hle (Or.inl j1) (by omega) 5 0 FU (up (up μ (al + 3) (8 * a + b) (nI 1000000)) (al + 4) (8 * a + b) (nI 0)) rfl (by decide)
        (fun s x y z1 z2 z3 => by rw [up_ne (by omega), up_ne (by omega)]; exact hpc s x y z1 z2 z3) (hto _ (fun c x y => by rw [up_ne y, up_ne x]) (fun i x => ⟨by rw [up_ne (by omega), up_ot x], by rw [up_ot x, up_ne (by omega)]⟩))
        (by rw [up_ne (by omega), up_ne (by omega), k2]) (fun z => by rw [up_ne (by omega), up_ne (by omega)]; exact k5 hi he) (by rw [up_ne (by omega), up_at]; rfl) (by rw [up_at]; rfl)
      refine ⟨μ', ?_, fun c x y => (e2 c x y).trans (by rw [up_ne y, up_ne x]), fun i x => ⟨(e3 i x).1.trans (by rw [up_ne (by omega), up_ot x]), (e3 i x).2.trans (by rw [up_ot x, up_ne (by omega)])⟩, ?_, ?_⟩
      · simp only [jn_X0_fillOthersAt_42, l_0, e1, b1_some]
      · rw [e4, j4]
      · rw [e5, j3, Nat.zero_add]
  · rw [if_neg hi]
    have hg : (VV d wb a b).2.1 = 1000000 ∧ (VV d wb a b).2.2.1 = 0 := by
      rcases hG with z | z
      · exact ⟨z.2.1, z.2.2⟩
      · have := z.1; omega
    refine ⟨_, rfl, fun c x y => by rw [up_ne y, up_ne x], fun i x => ⟨by rw [up_ne (by omega), up_ot x], by rw [up_ot x, up_ne (by omega)]⟩, ?_, ?_⟩
    · rw [up_ne (by omega), up_at, hg.1]
    · rw [up_at, hg.2]
def AT (al : Nat) (μ : Mem) (d : BD) (wb : Nat) : Prop := ∀ a' b', a' ≤ d 0 0 → b' ≤ d 0 1 → μ (al + 2) (8 * a' + b') = nI (VV d wb a' b').1 ∧ ((VV d wb a' b').1 < 1000000 → ¬ (a' = d 0 0 ∧ b' = d 0 1) → μ (al + 5) (8 * a' + b') = nI (VV d wb a' b').2.2.2)
theorem AT_fr {al wb : Nat} {μ ν : Mem} {d : BD} (h : AT al μ d wb) (h2 : ν (al + 2) = μ (al + 2)) (h5 : ν (al + 5) = μ (al + 5)) : AT al ν d wb := by
  unfold AT at *
  rw [h2, h5]
  exact h
theorem PC_fr {al : Nat} {μ ν : Mem} {d : BD} (h : PC al μ d) (h1 : ν (al + 1) = μ (al + 1)) : PC al ν d := by
  unfold PC at *
  rw [h1]
  exact h
theorem c_fo14 {al a wb : Nat} {d : BD} (hal : isAl al) (w : WFd d) (ha : a ≤ d 0 0) : ∀ (j f : Nat) (μ : Mem), j ≤ d 0 1 + 1 → j < f → μ al 8 = nI (d 0 0) → μ al 9 = nI (d 0 1) → PC al μ d → AT al μ d wb → (∀ a' b', a' ≤ d 0 0 → b' ≤ d 0 1 → (a < a' ∨ (a' = a ∧ j ≤ b')) → μ (al + 3) (8 * a' + b') = nI (VV d wb a' b').2.1 ∧ μ (al + 4) (8 * a' + b') = nI (VV d wb a' b').2.2.1) →
    ∃ μ', lp_X0_fillOthers_14 al (nI a) f (dn j) μ = some μ' ∧ (∀ c, c ≠ al + 3 → c ≠ al + 4 → μ' c = μ c) ∧ (∀ a' b', a' ≤ d 0 0 → b' ≤ d 0 1 → a ≤ a' → μ' (al + 3) (8 * a' + b') = nI (VV d wb a' b').2.1 ∧ μ' (al + 4) (8 * a' + b') = nI (VV d wb a' b').2.2.1) := by
  have w1 := w.1
  have w2 := w.2.1
  intro j
  induction j with
  | zero =>
    intro f μ hj hf h8 h9 hpc hat hd
    obtain ⟨f, rfl⟩ : ∃ m, f = m + 1 := ⟨f - 1, by omega⟩
    refine ⟨μ, ?_, fun _ _ _ => rfl, fun a' b' x y z => hd a' b' x y (by omega)⟩
    simp only [lp_X0_fillOthers_14, dn_neg, if_true]
  | succ b ih =>
    intro f μ hj hf h8 h9 hpc hat hd
    obtain ⟨f, rfl⟩ : ∃ m, f = m + 1 := ⟨f - 1, by omega⟩
    have hdn : dn (b + 1) = nI b := rfl
    have hnp : ¬ nI b < 0 := nI_pos (by omega)
    have hpl : a * 8 + b = 8 * a + b := by omega
    obtain ⟨μ1, e1, e2, e3, e4, e5⟩ := c_fillOthersAt (a := a) (b := b) hal w ha (by omega) h8 h9 hpc hat (fun s hs hv => by
      have := dlr s hs
      exact hd _ _ hv.1 hv.2 (by omega))
    obtain ⟨μ', f1, f2, f3⟩ := ih f μ1 (by omega) (by omega) (by rw [e2 al (by omega) (by omega)]; exact h8) (by rw [e2 al (by omega) (by omega)]; exact h9) (PC_fr hpc (e2 _ (by omega) (by omega))) (AT_fr hat (e2 _ (by omega) (by omega)) (e2 _ (by omega) (by omega))) (fun a' b' x y z => by
      by_cases hz : a' = a ∧ b' = b
      · obtain ⟨rfl, rfl⟩ := hz
        exact ⟨e4, e5⟩
      · have hne : 8 * a' + b' ≠ 8 * a + b := by omega
        rw [(e3 _ hne).1, (e3 _ hne).2]
        exact hd a' b' x y (by omega))
    refine ⟨μ', ?_, fun c x y => (f2 c x y).trans (e2 c x y), f3⟩
    rw [← f1, hdn]
    simp (disch := omega) only [lp_X0_fillOthers_14, hnp, if_false, l_8, q_mul, q_add, hpl, e1, b1_some, lt_eq, dn_dec]
theorem c_fo5 {al wb : Nat} {d : BD} (hal : isAl al) (w : WFd d) : ∀ (i f : Nat) (μ : Mem), i ≤ d 0 0 + 1 → i < f → μ al 8 = nI (d 0 0) → μ al 9 = nI (d 0 1) → PC al μ d → AT al μ d wb → (∀ a' b', a' ≤ d 0 0 → b' ≤ d 0 1 → i ≤ a' → μ (al + 3) (8 * a' + b') = nI (VV d wb a' b').2.1 ∧ μ (al + 4) (8 * a' + b') = nI (VV d wb a' b').2.2.1) →
    ∃ μ', lp_X0_fillOthers_5 al f (dn i) μ = some μ' ∧ (∀ c, c ≠ al + 3 → c ≠ al + 4 → μ' c = μ c) ∧ (∀ a' b', a' ≤ d 0 0 → b' ≤ d 0 1 → μ' (al + 3) (8 * a' + b') = nI (VV d wb a' b').2.1 ∧ μ' (al + 4) (8 * a' + b') = nI (VV d wb a' b').2.2.1) := by
  have w1 := w.1
  have w2 := w.2.1
  intro i
  induction i with
  | zero =>
    intro f μ hj hf h8 h9 hpc hat hd
    obtain ⟨f, rfl⟩ : ∃ m, f = m + 1 := ⟨f - 1, by omega⟩
    refine ⟨μ, ?_, fun _ _ _ => rfl, fun a' b' x y => hd a' b' x y (by omega)⟩
    simp only [lp_X0_fillOthers_5, dn_neg, if_true]
  | succ a ih =>
    intro f μ hj hf h8 h9 hpc hat hd
    obtain ⟨f, rfl⟩ : ∃ m, f = m + 1 := ⟨f - 1, by omega⟩
    obtain ⟨μ1, e1, e2, e3⟩ := c_fo14 (a := a) (wb := wb) hal w (by omega) (d 0 1 + 1) FU μ (Nat.le_refl _) (by unfold FU; omega) h8 h9 hpc hat (fun a' b' x y z => hd a' b' x y (by omega))
    obtain ⟨μ', f1, f2, f3⟩ := ih f μ1 (by omega) (by omega) (by rw [e2 al (by omega) (by omega)]; exact h8) (by rw [e2 al (by omega) (by omega)]; exact h9) (PC_fr hpc (e2 _ (by omega) (by omega))) (AT_fr hat (e2 _ (by omega) (by omega)) (e2 _ (by omega) (by omega))) (fun a' b' x y z => e3 a' b' x y (by omega))
    have hdn : dn (a + 1) = nI a := rfl
    have hdr : dn (d 0 1 + 1) = nI (d 0 1) := rfl
    rw [hdr] at e1
    have hnp : ¬ nI a < 0 := nI_pos (by omega)
    refine ⟨μ', ?_, fun c x y => (f2 c x y).trans (e2 c x y), f3⟩
    rw [← f1, hdn]
    simp (disch := omega) only [lp_X0_fillOthers_5, hnp, if_false, lt_eq, h9, e1, b1_some, dn_dec]
theorem c_fillOthers {al wb : Nat} {d : BD} {μ : Mem} (hal : isAl al) (w : WFd d) (h8 : μ al 8 = nI (d 0 0)) (h9 : μ al 9 = nI (d 0 1)) (hpc : PC al μ d) (hat : AT al μ d wb) :
    ∃ μ', f_X0_fillOthers al μ = some μ' ∧ (∀ c, c ≠ al + 3 → c ≠ al + 4 → μ' c = μ c) ∧ (∀ a' b', a' ≤ d 0 0 → b' ≤ d 0 1 → μ' (al + 3) (8 * a' + b') = nI (VV d wb a' b').2.1 ∧ μ' (al + 4) (8 * a' + b') = nI (VV d wb a' b').2.2.1) := by
  have w1 := w.1
  obtain ⟨μ', e1, e2, e3⟩ := c_fo5 (wb := wb) hal w (d 0 0 + 1) FU μ (Nat.le_refl _) (by unfold FU; omega) h8 h9 hpc hat (fun a' b' x y z => by omega)
  have hdr : dn (d 0 0 + 1) = nI (d 0 0) := rfl
  rw [hdr] at e1
  refine ⟨μ', ?_, e2, e3⟩
  simp only [f_X0_fillOthers, lt_eq, h8, e1, b1_some]
