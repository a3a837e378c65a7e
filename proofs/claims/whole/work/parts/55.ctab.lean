theorem l_m : (1000000 : Int32) = nI 1000000 := rfl
def pcv (d : BD) (s a b : Nat) : Nat := if a + dl s ≤ d 0 0 ∧ b + dr s ≤ d 0 1 then cst d s a b else 1000000
theorem pcv_le {d : BD} {s a b : Nat} (w : WFd d) (hs : s < 5) : pcv d s a b ≤ 1000000 := by
  unfold pcv
  split
  · rename_i h; have := cst_le w hs h; omega
  · omega
theorem BKc_fr {q : Nat} {μ ν : Mem} {d : BD} (h : BKc q μ d) (h0 : ν q = μ q) (h1 : ν (q + 1) = μ (q + 1)) (h2 : ν (q + 2) = μ (q + 2)) (h3 : ν (q + 3) = μ (q + 3)) (h4 : ν (q + 4) = μ (q + 4)) (h5 : ν (q + 5) = μ (q + 5)) : BKc q ν d := by
  unfold BKc at *
  rw [h0, h1, h2, h3, h4, h5]
  exact h
theorem BKm_fr {μ ν : Mem} {d : BD} (h : BKm μ d) (h0 : ∀ i, 5 ≤ i → i ≤ 9 → ν 43 i = μ 43 i) (h1 : ∀ c, 47 ≤ c → c ≤ 51 → ν c = μ c) : BKm ν d := by
  unfold BKm at *
  rw [h0 5 (by omega) (by omega), h0 6 (by omega) (by omega), h0 7 (by omega) (by omega), h0 8 (by omega) (by omega), h0 9 (by omega) (by omega), h1 47 (by omega) (by omega), h1 48 (by omega) (by omega), h1 49 (by omega) (by omega), h1 50 (by omega) (by omega), h1 51 (by omega) (by omega)]
  exact h
abbrev isAl (al : Nat) : Prop := al = 14 ∨ al = 23
abbrev isBk (q : Nat) : Prop := q = 2 ∨ q = 8
theorem c_take39 {al bq a b : Nat} {d : BD} (hal : isAl al) (hbq : isBk bq) (w : WFd d) (ha : a ≤ d 0 0) (hb : b ≤ d 0 1) : ∀ (k s n : Nat) (μ : Mem), s + k = 5 → k < n → BKc bq μ d →
    ∃ μ', lp_X0_take_39 al bq (nI a) (nI b) n (nI s) μ = some μ' ∧ (∀ c, c ≠ al + 1 → μ' c = μ c) ∧ (∀ s' a' b', s' < 5 → a' ≤ 7 → b' ≤ 7 → μ' (al + 1) (64 * s' + 8 * a' + b') = if a' = a ∧ b' = b ∧ s ≤ s' then nI (pcv d s' a' b') else μ (al + 1) (64 * s' + 8 * a' + b')) := by
  have w1 := w.1
  have w2 := w.2.1
  intro k
  induction k with
  | zero =>
    intro s n μ hs hn h
    obtain ⟨n, rfl⟩ : ∃ m, n = m + 1 := ⟨n - 1, by omega⟩
    have : s = 5 := by omega
    subst this
    refine ⟨μ, ?_, fun _ _ => rfl, fun s' a' b' h1 h2 h3 => ?_⟩
    · simp (disch := omega) only [lp_X0_take_39, l_5, Nat.le_refl, q_le, if_true]
    · rw [if_neg (by omega)]
  | succ k ih =>
    intro s n μ hs hn h
    obtain ⟨n, rfl⟩ : ∃ m, n = m + 1 := ⟨n - 1, by omega⟩
    have hs5 : s < 5 := by omega
    have hx : lp_X0_take_39 al bq (nI a) (nI b) (n + 1) (nI s) μ = lp_X0_take_39 al bq (nI a) (nI b) n (nI (s + 1)) (up μ (al + 1) (64 * s + 8 * a + b) (nI (pcv d s a b))) := by
      simp (disch := omega) only [lp_X0_take_39, l_5, q_le, show ¬ 5 ≤ s by omega, if_false, c_hasPair h w hs5 ha hb, b2_some]
      unfold pcv
      by_cases hv : a + dl s ≤ d 0 0 ∧ b + dr s ≤ d 0 1
      · simp (disch := omega) only [hv, and_self, if_true, l_0, q_eq, Nat.reduceEqDiff, if_false, c_pairCost h w hs5 hv, b2_some, jn_X0_take_69, l_64, l_8, l_1, q_mul, q_add, q_ck, q_cl, lt_eq]
        rw [show s * 64 + a * 8 + b = 64 * s + 8 * a + b by omega]
      · simp (disch := omega) only [hv, if_false, l_0, q_eq, if_true, jn_X0_take_69, l_64, l_8, l_1, q_mul, q_add, q_ck, q_cl, lt_eq, l_m]
        rw [show s * 64 + a * 8 + b = 64 * s + 8 * a + b by omega]
    obtain ⟨μ', e1, e2, e3⟩ := ih (s + 1) n (up μ (al + 1) (64 * s + 8 * a + b) (nI (pcv d s a b))) (by omega) (by omega) (BKc_fr h (up_ne (by omega)) (up_ne (by omega)) (up_ne (by omega)) (up_ne (by omega)) (up_ne (by omega)) (up_ne (by omega)))
    refine ⟨μ', hx.trans e1, fun c hc => (e2 c hc).trans (up_ne hc), fun s' a' b' h1 h2 h3 => ?_⟩
    rw [e3 s' a' b' h1 h2 h3, up_if]
    by_cases z : a' = a ∧ b' = b ∧ s ≤ s'
    · obtain ⟨rfl, rfl, z3⟩ := z
      by_cases z4 : s = s'
      · subst z4
        rw [if_neg (by omega), if_pos ⟨rfl, rfl⟩, if_pos ⟨rfl, rfl, Nat.le_refl _⟩]
      · rw [if_pos ⟨rfl, rfl, by omega⟩, if_pos ⟨rfl, rfl, z3⟩]
    · rw [if_neg (by omega), if_neg z, if_neg (by omega)]
theorem c_take28 {al bq a : Nat} {d : BD} (hal : isAl al) (hbq : isBk bq) (w : WFd d) (ha : a ≤ d 0 0) : ∀ (k b n : Nat) (μ : Mem), b + k = d 0 1 + 1 → k < n → BKc bq μ d → μ al 9 = nI (d 0 1) →
    ∃ μ', lp_X0_take_28 al bq (nI a) n (nI b) μ = some μ' ∧ (∀ c, c ≠ al + 1 → μ' c = μ c) ∧ (∀ s' a' b', s' < 5 → a' ≤ 7 → b' ≤ 7 → μ' (al + 1) (64 * s' + 8 * a' + b') = if a' = a ∧ b ≤ b' ∧ b' ≤ d 0 1 then nI (pcv d s' a' b') else μ (al + 1) (64 * s' + 8 * a' + b')) := by
  have w1 := w.1
  have w2 := w.2.1
  intro k
  induction k with
  | zero =>
    intro b n μ hs hn h h9
    obtain ⟨n, rfl⟩ : ∃ m, n = m + 1 := ⟨n - 1, by omega⟩
    refine ⟨μ, ?_, fun _ _ => rfl, fun s' a' b' h1 h2 h3 => ?_⟩
    · simp (disch := omega) only [lp_X0_take_28, h9, q_lt, show d 0 1 < b by omega, if_true]
    · rw [if_neg (by omega)]
  | succ k ih =>
    intro b n μ hs hn h h9
    obtain ⟨n, rfl⟩ : ∃ m, n = m + 1 := ⟨n - 1, by omega⟩
    obtain ⟨μ1, f1, f2, f3⟩ := c_take39 (a := a) (b := b) hal hbq w ha (by omega) 5 0 FU μ rfl (by decide) h
    have hx : lp_X0_take_28 al bq (nI a) (n + 1) (nI b) μ = lp_X0_take_28 al bq (nI a) n (nI (b + 1)) μ1 := by
      simp (disch := omega) only [lp_X0_take_28, h9, q_lt, show ¬ d 0 1 < b by omega, if_false, l_0, f1, b1_some, lt_eq, l_1, q_add]
    obtain ⟨μ', e1, e2, e3⟩ := ih (b + 1) n μ1 (by omega) (by omega) (BKc_fr h (f2 _ (by omega)) (f2 _ (by omega)) (f2 _ (by omega)) (f2 _ (by omega)) (f2 _ (by omega)) (f2 _ (by omega))) (by rw [f2 al (by omega)]; exact h9)
    refine ⟨μ', hx.trans e1, fun c hc => (e2 c hc).trans (f2 c hc), fun s' a' b' h1 h2 h3 => ?_⟩
    rw [e3 s' a' b' h1 h2 h3, f3 s' a' b' h1 h2 h3]
    by_cases z : a' = a ∧ b ≤ b' ∧ b' ≤ d 0 1
    · by_cases z4 : b' = b
      · rw [if_neg (by omega), if_pos (by omega), if_pos z]
      · rw [if_pos (by omega), if_pos z]
    · rw [if_neg (by omega), if_neg (by omega), if_neg z]
theorem c_take18 {al bq : Nat} {d : BD} (hal : isAl al) (hbq : isBk bq) (w : WFd d) : ∀ (k a n : Nat) (μ : Mem), a + k = d 0 0 + 1 → k < n → BKc bq μ d → μ al 8 = nI (d 0 0) → μ al 9 = nI (d 0 1) →
    ∃ μ', lp_X0_take_18 al bq n (nI a) μ = some μ' ∧ (∀ c, c ≠ al + 1 → μ' c = μ c) ∧ (∀ s' a' b', s' < 5 → a' ≤ 7 → b' ≤ 7 → μ' (al + 1) (64 * s' + 8 * a' + b') = if a ≤ a' ∧ a' ≤ d 0 0 ∧ b' ≤ d 0 1 then nI (pcv d s' a' b') else μ (al + 1) (64 * s' + 8 * a' + b')) := by
  have w1 := w.1
  have w2 := w.2.1
  intro k
  induction k with
  | zero =>
    intro a n μ hs hn h h8 h9
    obtain ⟨n, rfl⟩ : ∃ m, n = m + 1 := ⟨n - 1, by omega⟩
    refine ⟨μ, ?_, fun _ _ => rfl, fun s' a' b' h1 h2 h3 => ?_⟩
    · simp (disch := omega) only [lp_X0_take_18, h8, q_lt, show d 0 0 < a by omega, if_true]
    · rw [if_neg (by omega)]
  | succ k ih =>
    intro a n μ hs hn h h8 h9
    obtain ⟨n, rfl⟩ : ∃ m, n = m + 1 := ⟨n - 1, by omega⟩
    obtain ⟨μ1, f1, f2, f3⟩ := c_take28 (a := a) hal hbq w (by omega) (d 0 1 + 1) 0 FU μ (by omega) (by unfold FU; omega) h h9
    have hx : lp_X0_take_18 al bq (n + 1) (nI a) μ = lp_X0_take_18 al bq n (nI (a + 1)) μ1 := by
      simp (disch := omega) only [lp_X0_take_18, h8, q_lt, show ¬ d 0 0 < a by omega, if_false, l_0, f1, b1_some, lt_eq, l_1, q_add]
    obtain ⟨μ', e1, e2, e3⟩ := ih (a + 1) n μ1 (by omega) (by omega) (BKc_fr h (f2 _ (by omega)) (f2 _ (by omega)) (f2 _ (by omega)) (f2 _ (by omega)) (f2 _ (by omega)) (f2 _ (by omega))) (by rw [f2 al (by omega)]; exact h8) (by rw [f2 al (by omega)]; exact h9)
    refine ⟨μ', hx.trans e1, fun c hc => (e2 c hc).trans (f2 c hc), fun s' a' b' h1 h2 h3 => ?_⟩
    rw [e3 s' a' b' h1 h2 h3, f3 s' a' b' h1 h2 h3]
    by_cases z : a ≤ a' ∧ a' ≤ d 0 0 ∧ b' ≤ d 0 1
    · by_cases z4 : a' = a
      · rw [if_neg (by omega), if_pos (by omega), if_pos z]
      · rw [if_pos (by omega), if_pos z]
    · rw [if_neg (by omega), if_neg (by omega), if_neg z]
def PC (al : Nat) (μ : Mem) (d : BD) : Prop := ∀ s a b, s < 5 → a ≤ d 0 0 → b ≤ d 0 1 → μ (al + 1) (64 * s + 8 * a + b) = nI (pcv d s a b)
theorem c_take {al bq : Nat} {d : BD} {μ : Mem} (hal : isAl al) (hbq : isBk bq) (w : WFd d) (h : BKc bq μ d) :
    ∃ μ', f_X0_take al bq μ = some μ' ∧ (∀ c, c ≠ al → c ≠ al + 1 → μ' c = μ c) ∧ μ' al 8 = nI (d 0 0) ∧ μ' al 9 = nI (d 0 1) ∧ PC al μ' d := by
  have w1 := w.1
  have w2 := w.2.1
  have h' := h
  obtain ⟨h1, h2, -⟩ := h
  have e5 : (up μ al 8 (nI (d 0 0))) bq 6 = nI (d 0 1) := by rw [up_ne (by omega)]; exact h2
  obtain ⟨μ', f1, f2, f3⟩ := c_take18 (μ := up (up μ al 8 (nI (d 0 0))) al 9 (nI (d 0 1))) hal hbq w (d 0 0 + 1) 0 FU (by omega) (by unfold FU; omega)
    (BKc_fr h' (by rw [up_ne (by omega), up_ne (by omega)]) (by rw [up_ne (by omega), up_ne (by omega)]) (by rw [up_ne (by omega), up_ne (by omega)]) (by rw [up_ne (by omega), up_ne (by omega)]) (by rw [up_ne (by omega), up_ne (by omega)]) (by rw [up_ne (by omega), up_ne (by omega)]))
    (by rw [up_ot (by omega), up_at]) (by rw [up_at])
  refine ⟨μ', ?_, fun c hc1 hc2 => ?_, ?_, ?_, fun s a b hs ha hb => ?_⟩
  · simp (disch := omega) only [f_X0_take, lt_eq, h1, e5, l_0, f1, b1_some]
  · rw [f2 c hc2, up_ne hc1, up_ne hc1]
  · rw [f2 al (by omega), up_ot (by omega), up_at]
  · rw [f2 al (by omega), up_at]
  · rw [f3 s a b hs (by omega) (by omega), if_pos (by omega)]
