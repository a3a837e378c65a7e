theorem addq_1 {q : Q4} {s l n k : Nat} (h : q.1 ≤ 1000000) : (addq q s l n k).1 = if l < q.1 then l else q.1 := by
  unfold addq
  (repeat' split) <;> first | rfl | omega
theorem addq_F {q : Q4} {s l n k : Nat} (h : q.1 ≤ 1000000) : (addq q s l n k).2.2.2 = if l < q.1 then s else q.2.2.2 := by
  unfold addq
  (repeat' split) <;> first | rfl | omega
theorem fdq_le {d : BD} {T : Nat → Nat → Q4} {a b : Nat} : ∀ n, (fdq d T a b n).1 ≤ 1000000
  | 0 => Nat.le_refl _
  | n + 1 => by
    have ih := fdq_le (d := d) (T := T) (a := a) (b := b) n
    show (itq d T a b (fdq d T a b n) n).1 ≤ 1000000
    unfold itq
    split
    · rw [addq_1 ih]; split <;> omega
    · exact ih
def TM (al : Nat) (μ : Mem) (d : BD) (T : Nat → Nat → Q4) (a b : Nat) : Prop := ∀ s, s < 5 → avl d s a b → μ (al + 2) (8 * (a + dl s) + (b + dr s)) = nI (T (a + dl s) (b + dr s)).1 ∧ (T (a + dl s) (b + dr s)).1 ≤ 1000000
theorem c_fl17 {al a b : Nat} {d : BD} {T : Nat → Nat → Q4} (hal : isAl al) (w : WFd d) (ha : a ≤ d 0 0) (hb : b ≤ d 0 1) : ∀ (k n f : Nat) (μ : Mem), n + k = 5 → k < f → PC al μ d → TM al μ d T a b → ((fdq d T a b n).1 < 1000000 → μ (al + 5) (8 * a + b) = nI (fdq d T a b n).2.2.2) →
    ∃ μ', lp_X0_fillLeast_17 al (nI (8 * a + b)) f (nI (fdq d T a b n).1) (nI n) μ = some (nI (fdq d T a b 5).1, μ') ∧ (∀ c, c ≠ al + 5 → μ' c = μ c) ∧ (∀ i, i ≠ 8 * a + b → μ' (al + 5) i = μ (al + 5) i) ∧ ((fdq d T a b 5).1 < 1000000 → μ' (al + 5) (8 * a + b) = nI (fdq d T a b 5).2.2.2) := by
  have w1 := w.1
  have w2 := w.2.1
  intro k
  induction k with
  | zero =>
    intro n f μ hs hn hpc htm hF
    obtain ⟨f, rfl⟩ : ∃ m, f = m + 1 := ⟨f - 1, by omega⟩
    have : n = 5 := by omega
    subst this
    refine ⟨μ, ?_, fun _ _ => rfl, fun _ _ => rfl, hF⟩
    simp (disch := omega) only [lp_X0_fillLeast_17, l_5, Nat.le_refl, q_le, if_true]
  | succ k ih =>
    intro n f μ hs hn hpc htm hF
    obtain ⟨f, rfl⟩ : ∃ m, f = m + 1 := ⟨f - 1, by omega⟩
    have hn5 : n < 5 := by omega
    have hp := hpc n a b hn5 ha hb
    have hle := fdq_le (d := d) (T := T) (a := a) (b := b) n
    have hq : fdq d T a b (n + 1) = itq d T a b (fdq d T a b n) n := rfl
    by_cases hv : a + dl n ≤ d 0 0 ∧ b + dr n ≤ d 0 1
    · have hpv : pcv d n a b = cst d n a b := by unfold pcv; rw [if_pos hv]
      have hc := cst_le w hn5 hv
      obtain ⟨t1, t2⟩ := htm n hn5 hv
      have hit : itq d T a b (fdq d T a b n) n = addq (fdq d T a b n) n (cst d n a b + (T (a + dl n) (b + dr n)).1) (cpn (cst d n a b) (T (a + dl n) (b + dr n)).2.1) (T (a + dl n) (b + dr n)).2.2.1 := by
        unfold itq
        rw [if_pos hv]
      have g1 := addq_1 (q := fdq d T a b n) (s := n) (l := cst d n a b + (T (a + dl n) (b + dr n)).1) (n := cpn (cst d n a b) (T (a + dl n) (b + dr n)).2.1) (k := (T (a + dl n) (b + dr n)).2.2.1) hle
      have g2 := addq_F (q := fdq d T a b n) (s := n) (l := cst d n a b + (T (a + dl n) (b + dr n)).1) (n := cpn (cst d n a b) (T (a + dl n) (b + dr n)).2.1) (k := (T (a + dl n) (b + dr n)).2.2.1) hle
      rw [← hit, ← hq] at g1 g2
      have hi : n * 64 + (8 * a + b) = 64 * n + 8 * a + b := by omega
      have hj : 8 * a + b + (8 * dl n + dr n) = 8 * (a + dl n) + (b + dr n) := by omega
      have hv1 := hv.1
      have hv2 := hv.2
      by_cases c1 : cst d n a b + (T (a + dl n) (b + dr n)).1 < (fdq d T a b n).1
      · rw [if_pos c1] at g1 g2
        have hx : lp_X0_fillLeast_17 al (nI (8 * a + b)) (f + 1) (nI (fdq d T a b n).1) (nI n) μ = lp_X0_fillLeast_17 al (nI (8 * a + b)) f (nI (fdq d T a b (n + 1)).1) (nI (n + 1)) (up μ (al + 5) (8 * a + b) (nI n)) := by
          rw [g1]
          simp (disch := omega) only [lp_X0_fillLeast_17, l_5, q_le, show ¬ 5 ≤ n by omega, if_false, l_64, q_mul, q_add, hi, q_ck, q_cl, hp, hpv, lt_eq, l_m, show ¬ 1000000 ≤ cst d n a b by omega, stv2, hj, t1, jn_X0_fillLeast_59, show ¬ (fdq d T a b n).1 ≤ cst d n a b + (T (a + dl n) (b + dr n)).1 by omega, l_1]
        obtain ⟨μ', e1, e2, e3, e4⟩ := ih (n + 1) f (up μ (al + 5) (8 * a + b) (nI n)) (by omega) (by omega) (fun s a' b' x y z => by rw [up_ne (by omega)]; exact hpc s a' b' x y z) (fun s x y => by rw [up_ne (by omega)]; exact htm s x y) (fun _ => by rw [up_at, g2])
        exact ⟨μ', hx.trans e1, fun c hc => (e2 c hc).trans (up_ne hc), fun i hi => (e3 i hi).trans (up_ot hi), e4⟩
      · rw [if_neg c1] at g1 g2
        have hx : lp_X0_fillLeast_17 al (nI (8 * a + b)) (f + 1) (nI (fdq d T a b n).1) (nI n) μ = lp_X0_fillLeast_17 al (nI (8 * a + b)) f (nI (fdq d T a b (n + 1)).1) (nI (n + 1)) μ := by
          rw [g1]
          simp (disch := omega) only [lp_X0_fillLeast_17, l_5, q_le, show ¬ 5 ≤ n by omega, if_false, l_64, q_mul, q_add, hi, q_ck, q_cl, hp, hpv, lt_eq, l_m, show ¬ 1000000 ≤ cst d n a b by omega, stv2, hj, t1, jn_X0_fillLeast_59, show (fdq d T a b n).1 ≤ cst d n a b + (T (a + dl n) (b + dr n)).1 by omega, if_true, l_1]
        obtain ⟨μ', e1, e2, e3, e4⟩ := ih (n + 1) f μ (by omega) (by omega) hpc htm (fun hlt => by rw [g2]; exact hF (by rw [g1] at hlt; exact hlt))
        exact ⟨μ', hx.trans e1, e2, e3, e4⟩
    · have hpv : pcv d n a b = 1000000 := by unfold pcv; rw [if_neg hv]
      have hit : fdq d T a b (n + 1) = fdq d T a b n := by
        rw [hq]
        unfold itq
        rw [if_neg hv]
      have hi : n * 64 + (8 * a + b) = 64 * n + 8 * a + b := by omega
      have hx : lp_X0_fillLeast_17 al (nI (8 * a + b)) (f + 1) (nI (fdq d T a b n).1) (nI n) μ = lp_X0_fillLeast_17 al (nI (8 * a + b)) f (nI (fdq d T a b (n + 1)).1) (nI (n + 1)) μ := by
        rw [hit]
        simp (disch := omega) only [lp_X0_fillLeast_17, l_5, q_le, show ¬ 5 ≤ n by omega, if_false, l_64, q_mul, q_add, hi, q_ck, q_cl, hp, hpv, lt_eq, l_m, Nat.le_refl, if_true, jn_X0_fillLeast_59, hle, l_1]
      obtain ⟨μ', e1, e2, e3, e4⟩ := ih (n + 1) f μ (by omega) (by omega) hpc htm (by rw [hit]; exact hF)
      exact ⟨μ', hx.trans e1, e2, e3, e4⟩
theorem c_fl17e {al a b x : Nat} {d : BD} (w : WFd d) (ha : a = d 0 0) (hb : b = d 0 1) (hx : x ≤ 1000000) : ∀ (k n f : Nat) (μ : Mem), n + k = 5 → k < f → PC al μ d → lp_X0_fillLeast_17 al (nI (8 * a + b)) f (nI x) (nI n) μ = some (nI x, μ) := by
  have w1 := w.1
  have w2 := w.2.1
  intro k
  induction k with
  | zero =>
    intro n f μ hs hn hpc
    obtain ⟨f, rfl⟩ : ∃ m, f = m + 1 := ⟨f - 1, by omega⟩
    have : n = 5 := by omega
    subst this
    simp (disch := omega) only [lp_X0_fillLeast_17, l_5, Nat.le_refl, q_le, if_true]
  | succ k ih =>
    intro n f μ hs hn hpc
    obtain ⟨f, rfl⟩ : ∃ m, f = m + 1 := ⟨f - 1, by omega⟩
    have hn5 : n < 5 := by omega
    have hp := hpc n a b hn5 (by omega) (by omega)
    have := dlr n hn5
    have hpv : pcv d n a b = 1000000 := by unfold pcv; rw [if_neg (by omega)]
    have hi : n * 64 + (8 * a + b) = 64 * n + 8 * a + b := by omega
    rw [← ih (n + 1) f μ (by omega) (by omega) hpc]
    simp (disch := omega) only [lp_X0_fillLeast_17, l_5, q_le, show ¬ 5 ≤ n by omega, if_false, l_64, q_mul, q_add, hi, q_ck, q_cl, hp, hpv, lt_eq, l_m, Nat.le_refl, if_true, jn_X0_fillLeast_59, hx, l_1]
theorem c_end {al : Nat} {d : BD} {μ : Mem} (w : WFd d) (h8 : μ al 8 = nI (d 0 0)) (h9 : μ al 9 = nI (d 0 1)) : f_X0_end al μ = some (nI (8 * d 0 0 + d 0 1), μ) := by
  simp only [f_X0_end, h8, h9, l_8, q_mul, q_add]
  rw [Nat.mul_comm]
def flv (d : BD) (T : Nat → Nat → Q4) (a b : Nat) : Nat := if a = d 0 0 ∧ b = d 0 1 then 0 else (fdq d T a b 5).1
theorem c_fillLeast {al a b : Nat} {d : BD} {T : Nat → Nat → Q4} {μ : Mem} (hal : isAl al) (w : WFd d) (ha : a ≤ d 0 0) (hb : b ≤ d 0 1) (h8 : μ al 8 = nI (d 0 0)) (h9 : μ al 9 = nI (d 0 1)) (hpc : PC al μ d) (htm : TM al μ d T a b) :
    ∃ μ', f_X0_fillLeast al (nI (8 * a + b)) μ = some μ' ∧ (∀ c, c ≠ al + 2 → c ≠ al + 5 → μ' c = μ c) ∧ (∀ i, i ≠ 8 * a + b → μ' (al + 2) i = μ (al + 2) i ∧ μ' (al + 5) i = μ (al + 5) i) ∧ μ' (al + 2) (8 * a + b) = nI (flv d T a b) ∧ (¬ (a = d 0 0 ∧ b = d 0 1) → (fdq d T a b 5).1 < 1000000 → μ' (al + 5) (8 * a + b) = nI (fdq d T a b 5).2.2.2) := by
  have w1 := w.1
  have w2 := w.2.1
  by_cases he : a = d 0 0 ∧ b = d 0 1
  · have h17 := c_fl17e (al := al) (x := 0) (a := a) (b := b) w he.1 he.2 (by omega) 5 0 FU μ rfl (by decide) hpc
    refine ⟨up μ (al + 2) (8 * a + b) (nI 0), ?_, fun c h1 h2 => up_ne h1, fun i hi => ⟨up_ot hi, by rw [up_ne (by omega)]⟩, ?_, fun z => absurd he z⟩
    · simp (disch := omega) only [f_X0_fillLeast, c_end w h8 h9, b2_some, q_eq, show 8 * a + b = 8 * d 0 0 + d 0 1 by omega, if_true, jn_X0_fillLeast_14, l_0]
      rw [show 8 * d 0 0 + d 0 1 = 8 * a + b by omega]
      simp (disch := omega) only [h17, b2_some, q_ck, q_cl, lt_eq]
    · rw [up_at, flv, if_pos he]
  · obtain ⟨μ1, e1, e2, e3, e4⟩ := c_fl17 (T := T) hal w ha hb 5 0 FU μ rfl (by decide) hpc htm (fun h => absurd h (Nat.lt_irrefl 1000000))
    refine ⟨up μ1 (al + 2) (8 * a + b) (nI (fdq d T a b 5).1), ?_, fun c h1 h2 => (up_ne h1).trans (e2 c h2), fun i hi => ⟨?_, ?_⟩, ?_, fun _ h => ?_⟩
    · have e1' : lp_X0_fillLeast_17 al (nI (8 * a + b)) FU (nI 1000000) (nI 0) μ = some (nI (fdq d T a b 5).1, μ1) := e1
      simp (disch := omega) only [f_X0_fillLeast, c_end w h8 h9, b2_some, q_eq, show ¬ 8 * a + b = 8 * d 0 0 + d 0 1 by omega, if_false, jn_X0_fillLeast_14, l_0, l_m, e1', q_ck, q_cl, lt_eq]
    · rw [up_ot hi, e2 (al + 2) (by omega)]
    · rw [up_ne (by omega), e3 i hi]
    · rw [up_at, flv, if_neg he]
    · rw [up_ne (by omega)]; exact e4 h
def dn (j : Nat) : Int32 := match j with
  | 0 => -1
  | j + 1 => nI j
theorem dn_neg : dn 0 < 0 := by decide
theorem dn_pos {j : Nat} (h : j < 2147483647) : ¬ dn (j + 1) < 0 := nI_pos (by omega)
theorem dn_dec (j : Nat) : nI j + (-1) = dn j := by
  cases j with
  | zero => decide
  | succ j => exact pk_m1 j
def DL (al : Nat) (μ : Mem) (d : BD) (w a j : Nat) : Prop := ∀ a' b', a' ≤ d 0 0 → b' ≤ d 0 1 → (a < a' ∨ (a' = a ∧ j ≤ b')) → μ (al + 2) (8 * a' + b') = nI (VV d w a' b').1 ∧ ((VV d w a' b').1 < 1000000 → ¬ (a' = d 0 0 ∧ b' = d 0 1) → μ (al + 5) (8 * a' + b') = nI (VV d w a' b').2.2.2)
theorem VV_le {d : BD} {w a b : Nat} (wf : WFd d) (ha : a ≤ d 0 0) (hb : b ≤ d 0 1) : (VV d w a b).1 ≤ 1000000 := by
  have w1 := wf.1
  have w2 := wf.2.1
  rcases VV_Gd (w := w) wf _ a b ha hb rfl with h | h
  · omega
  · have := h.1; omega
theorem VV_1 {d : BD} {w a b : Nat} (wf : WFd d) (ha : a ≤ d 0 0) (hb : b ≤ d 0 1) : (VV d w a b).1 = if a ≤ b + w ∧ b ≤ a + w then flv d (VV d w) a b else 1000000 := by
  rw [VV_eq wf ha hb]
  unfold stq flv
  (repeat' split) <;> rfl
theorem VV_F {d : BD} {w a b : Nat} (wf : WFd d) (ha : a ≤ d 0 0) (hb : b ≤ d 0 1) (hi : a ≤ b + w ∧ b ≤ a + w) (he : ¬ (a = d 0 0 ∧ b = d 0 1)) : VV d w a b = fdq d (VV d w) a b 5 := by
  rw [VV_eq wf ha hb]
  unfold stq
  rw [if_pos hi, if_neg he]
theorem c_lb14 {al a wb : Nat} {d : BD} (hal : isAl al) (w : WFd d) (hw : wb ≤ 7) (ha : a ≤ d 0 0) : ∀ (j f : Nat) (μ : Mem), j ≤ d 0 1 + 1 → j < f → μ al 8 = nI (d 0 0) → μ al 9 = nI (d 0 1) → PC al μ d → DL al μ d wb a j →
    ∃ μ', lp_X0_leastBy_14 al (nI wb) (nI a) f (dn j) μ = some μ' ∧ (∀ c, c ≠ al + 2 → c ≠ al + 5 → μ' c = μ c) ∧ DL al μ' d wb a 0 := by
  have w1 := w.1
  have w2 := w.2.1
  intro j
  induction j with
  | zero =>
    intro f μ hj hf h8 h9 hpc hdl
    obtain ⟨f, rfl⟩ : ∃ m, f = m + 1 := ⟨f - 1, by omega⟩
    refine ⟨μ, ?_, fun _ _ _ => rfl, hdl⟩
    simp only [lp_X0_leastBy_14, dn_neg, if_true]
  | succ b ih =>
    intro f μ hj hf h8 h9 hpc hdl
    obtain ⟨f, rfl⟩ : ∃ m, f = m + 1 := ⟨f - 1, by omega⟩
    have hbR : b ≤ d 0 1 := by omega
    have hpl : a * 8 + b = 8 * a + b := by omega
    have hdn : dn (b + 1) = nI b := rfl
    have hnp : ¬ nI b < 0 := nI_pos (by omega)
    have hsub : mabs (nI a - nI b) = nI (adf a b) := mabs_sub (by omega) (by omega)
    have hadf : adf a b ≤ 7 := by unfold adf; split <;> omega
    by_cases hi : a ≤ b + wb ∧ b ≤ a + wb
    · have hc : ¬ wb < adf a b := by unfold adf; split <;> omega
      have htm : TM al (up μ (al + 2) (8 * a + b) (nI 1000000)) d (VV d wb) a b := by
        intro s hs hv
        have := dlr s hs
        have hv1 := hv.1
        have hv2 := hv.2
        have hne : 8 * (a + dl s) + (b + dr s) ≠ 8 * a + b := by omega
        rw [up_ot hne]
        refine ⟨(hdl (a + dl s) (b + dr s) hv.1 hv.2 ?_).1, VV_le w hv.1 hv.2⟩
        omega
      obtain ⟨μ1, e1, e2, e3, e4, e5⟩ := c_fillLeast (T := VV d wb) (μ := up μ (al + 2) (8 * a + b) (nI 1000000)) hal w ha hbR (by rw [up_ne (by omega)]; exact h8) (by rw [up_ne (by omega)]; exact h9) (fun s x y h1 h2 h3 => by rw [up_ne (by omega)]; exact hpc s x y h1 h2 h3) htm
      have hfr : ∀ c, c ≠ al + 2 → c ≠ al + 5 → μ1 c = μ c := fun c h1 h2 => (e2 c h1 h2).trans (up_ne h1)
      have hdl1 : DL al μ1 d wb a b := by
        intro a' b' ha' hb' hor
        by_cases hz : a' = a ∧ b' = b
        · obtain ⟨rfl, rfl⟩ := hz
          refine ⟨?_, fun h1 h2 => ?_⟩
          · rw [e4, VV_1 w ha hbR, if_pos hi]
          · have hF := VV_F w ha hbR hi h2
            rw [hF] at h1 ⊢
            exact e5 h2 h1
        · have hne : 8 * a' + b' ≠ 8 * a + b := by omega
          obtain ⟨g1, g2⟩ := e3 _ hne
          obtain ⟨k1, k2⟩ := hdl a' b' ha' hb' (by omega)
          rw [g1, g2, up_ot hne, up_ne (by omega)]
          exact ⟨k1, k2⟩
      obtain ⟨μ', f1, f2, f3⟩ := ih f μ1 (by omega) (by omega) (by rw [hfr al (by omega) (by omega)]; exact h8) (by rw [hfr al (by omega) (by omega)]; exact h9) (fun s x y h1 h2 h3 => by rw [hfr _ (by omega) (by omega)]; exact hpc s x y h1 h2 h3) hdl1
      refine ⟨μ', ?_, fun c h1 h2 => (f2 c h1 h2).trans (hfr c h1 h2), f3⟩
      rw [← f1, hdn]
      simp (disch := omega) only [lp_X0_leastBy_14, hnp, if_false, lt_eq, l_8, q_mul, q_add, hpl, q_ck, q_cl, hsub, q_lt, hc, l_m, e1, b1_some, dn_dec]
    · have hc : wb < adf a b := by unfold adf; split <;> omega
      have hdl1 : DL al (up μ (al + 2) (8 * a + b) (nI 1000000)) d wb a b := by
        intro a' b' ha' hb' hor
        by_cases hz : a' = a ∧ b' = b
        · obtain ⟨rfl, rfl⟩ := hz
          have h1 := VV_1 (w := wb) w ha hbR
          rw [if_neg hi] at h1
          refine ⟨?_, fun h2 => by omega⟩
          rw [up_at, h1]
        · have hne : 8 * a' + b' ≠ 8 * a + b := by omega
          obtain ⟨k1, k2⟩ := hdl a' b' ha' hb' (by omega)
          rw [up_ot hne, up_ne (by omega)]
          exact ⟨k1, k2⟩
      obtain ⟨μ', f1, f2, f3⟩ := ih f (up μ (al + 2) (8 * a + b) (nI 1000000)) (by omega) (by omega) (by rw [up_ne (by omega)]; exact h8) (by rw [up_ne (by omega)]; exact h9) (fun s x y h1 h2 h3 => by rw [up_ne (by omega)]; exact hpc s x y h1 h2 h3) hdl1
      refine ⟨μ', ?_, fun c h1 h2 => (f2 c h1 h2).trans (up_ne h1), f3⟩
      rw [← f1, hdn]
      simp (disch := omega) only [lp_X0_leastBy_14, hnp, if_false, lt_eq, l_8, q_mul, q_add, hpl, q_ck, q_cl, hsub, q_lt, hc, if_true, l_m, dn_dec]
theorem c_lb5 {al wb : Nat} {d : BD} (hal : isAl al) (w : WFd d) (hw : wb ≤ 7) : ∀ (i f : Nat) (μ : Mem), i ≤ d 0 0 + 1 → i < f → μ al 8 = nI (d 0 0) → μ al 9 = nI (d 0 1) → PC al μ d → (∀ a' b', a' ≤ d 0 0 → b' ≤ d 0 1 → i ≤ a' → μ (al + 2) (8 * a' + b') = nI (VV d wb a' b').1 ∧ ((VV d wb a' b').1 < 1000000 → ¬ (a' = d 0 0 ∧ b' = d 0 1) → μ (al + 5) (8 * a' + b') = nI (VV d wb a' b').2.2.2)) →
    ∃ μ', lp_X0_leastBy_5 al (nI wb) f (dn i) μ = some μ' ∧ (∀ c, c ≠ al + 2 → c ≠ al + 5 → μ' c = μ c) ∧ (∀ a' b', a' ≤ d 0 0 → b' ≤ d 0 1 → μ' (al + 2) (8 * a' + b') = nI (VV d wb a' b').1 ∧ ((VV d wb a' b').1 < 1000000 → ¬ (a' = d 0 0 ∧ b' = d 0 1) → μ' (al + 5) (8 * a' + b') = nI (VV d wb a' b').2.2.2)) := by
  have w1 := w.1
  have w2 := w.2.1
  intro i
  induction i with
  | zero =>
    intro f μ hj hf h8 h9 hpc hdl
    obtain ⟨f, rfl⟩ : ∃ m, f = m + 1 := ⟨f - 1, by omega⟩
    refine ⟨μ, ?_, fun _ _ _ => rfl, fun a' b' h1 h2 => hdl a' b' h1 h2 (Nat.zero_le _)⟩
    simp only [lp_X0_leastBy_5, dn_neg, if_true]
  | succ a ih =>
    intro f μ hj hf h8 h9 hpc hdl
    obtain ⟨f, rfl⟩ : ∃ m, f = m + 1 := ⟨f - 1, by omega⟩
    obtain ⟨μ1, e1, e2, e3⟩ := c_lb14 (a := a) hal w hw (by omega) (d 0 1 + 1) FU μ (Nat.le_refl _) (by unfold FU; omega) h8 h9 hpc (fun a' b' h1 h2 h3 => hdl a' b' h1 h2 (by omega))
    obtain ⟨μ', f1, f2, f3⟩ := ih f μ1 (by omega) (by omega) (by rw [e2 al (by omega) (by omega)]; exact h8) (by rw [e2 al (by omega) (by omega)]; exact h9) (fun s x y h1 h2 h3 => by rw [e2 _ (by omega) (by omega)]; exact hpc s x y h1 h2 h3) (fun a' b' h1 h2 h3 => e3 a' b' h1 h2 (by omega))
    refine ⟨μ', ?_, fun c h1 h2 => (f2 c h1 h2).trans (e2 c h1 h2), f3⟩
    have hdn : dn (a + 1) = nI a := rfl
    have hdr : dn (d 0 1 + 1) = nI (d 0 1) := rfl
    rw [hdr] at e1
    have hnp : ¬ nI a < 0 := nI_pos (by omega)
    rw [← f1, hdn]
    simp (disch := omega) only [lp_X0_leastBy_5, hnp, if_false, lt_eq, h9, e1, b1_some, dn_dec]
def orN (x : Nat) : Int32 := if x < 1000000 then nI x else -9
theorem c_orNone {x : Nat} {μ : Mem} (h : x ≤ 1000000) : f_X0_orNone (nI x) μ = some (orN x, μ) := by
  unfold f_X0_orNone orN
  simp (disch := omega) only [l_m, q_le]
  (repeat' split) <;> first | rfl | omega
theorem c_leastBy {al wb : Nat} {d : BD} {μ : Mem} (hal : isAl al) (w : WFd d) (hw : wb ≤ 7) (h8 : μ al 8 = nI (d 0 0)) (h9 : μ al 9 = nI (d 0 1)) (hpc : PC al μ d) :
    ∃ μ', f_X0_leastBy al (nI wb) μ = some (orN (VV d wb 0 0).1, μ') ∧ (∀ c, c ≠ al + 2 → c ≠ al + 5 → μ' c = μ c) ∧ (∀ a' b', a' ≤ d 0 0 → b' ≤ d 0 1 → μ' (al + 2) (8 * a' + b') = nI (VV d wb a' b').1 ∧ ((VV d wb a' b').1 < 1000000 → ¬ (a' = d 0 0 ∧ b' = d 0 1) → μ' (al + 5) (8 * a' + b') = nI (VV d wb a' b').2.2.2)) := by
  have w1 := w.1
  have w2 := w.2.1
  obtain ⟨μ', e1, e2, e3⟩ := c_lb5 (wb := wb) hal w hw (d 0 0 + 1) FU μ (Nat.le_refl _) (by unfold FU; omega) h8 h9 hpc (fun a' b' h1 h2 h3 => by omega)
  have h00 := (e3 0 0 (Nat.zero_le _) (Nat.zero_le _)).1
  have hdr : dn (d 0 0 + 1) = nI (d 0 0) := rfl
  rw [hdr] at e1
  refine ⟨μ', ?_, e2, e3⟩
  have hz : (0 : Int32).toNatClampNeg = 0 := by decide
  have h00' : μ' (al + 2) 0 = nI (VV d wb 0 0).1 := h00
  simp (disch := omega) only [f_X0_leastBy, lt_eq, h8, e1, b1_some, hz, h00', c_orNone (VV_le w (Nat.zero_le _) (Nat.zero_le _)), b2_some]
  rfl
