def pos (d : BD) (w : Nat) : Nat → Nat × Nat
  | 0 => (0, 0)
  | k + 1 => ((pos d w k).1 + dl (VV d w (pos d w k).1 (pos d w k).2).2.2.2, (pos d w k).2 + dr (VV d w (pos d w k).1 (pos d w k).2).2.2.2)
def srt (d : BD) (w k : Nat) : Nat := (VV d w (pos d w k).1 (pos d w k).2).2.2.2
def okp (d : BD) (w k : Nat) : Prop := (pos d w k).1 ≤ d 0 0 ∧ (pos d w k).2 ≤ d 0 1 ∧ (VV d w (pos d w k).1 (pos d w k).2).1 < 1000000
def ndp (d : BD) (w k : Nat) : Prop := (pos d w k).1 = d 0 0 ∧ (pos d w k).2 = d 0 1
theorem okp_step {d : BD} {w k : Nat} (wf : WFd d) (h : okp d w k) (he : ¬ ndp d w k) : srt d w k < 5 ∧ avl d (srt d w k) (pos d w k).1 (pos d w k).2 ∧ okp d w (k + 1) ∧ cst d (srt d w k) (pos d w k).1 (pos d w k).2 + (VV d w (pos d w (k + 1)).1 (pos d w (k + 1)).2).1 = (VV d w (pos d w k).1 (pos d w k).2).1 ∧ ∀ s, s < srt d w k → avl d s (pos d w k).1 (pos d w k).2 → (VV d w (pos d w k).1 (pos d w k).2).1 < cst d s (pos d w k).1 (pos d w k).2 + (VV d w ((pos d w k).1 + dl s) ((pos d w k).2 + dr s)).1 := by
  obtain ⟨h1, h2, h3⟩ := h
  have w1 := wf.1
  have w2 := wf.2.1
  have hp1 : (pos d w (k + 1)).1 = (pos d w k).1 + dl (srt d w k) := rfl
  have hp2 : (pos d w (k + 1)).2 = (pos d w k).2 + dr (srt d w k) := rfl
  unfold okp
  rw [hp1, hp2]
  unfold srt
  unfold ndp at he
  generalize (pos d w k).1 = a at *
  generalize (pos d w k).2 = b at *
  have htg : TG d (VV d w) a b ((d 0 0 - a) + (d 0 1 - b)) := by
    intro s hs hv
    have := dlr s hs
    have hv1 := hv.1
    have hv2 := hv.2
    exact ⟨(d 0 0 - (a + dl s)) + (d 0 1 - (b + dr s)), _, by omega, VV_Gd wf _ _ _ hv.1 hv.2 rfl⟩
  have hin : a ≤ b + w ∧ b ≤ a + w := by
    have z1 := VV_1 (w := w) wf h1 h2
    by_cases z : a ≤ b + w ∧ b ≤ a + w
    · exact z
    · rw [if_neg z] at z1; omega
  have hF := VV_F wf h1 h2 hin he
  obtain ⟨-, i2, -, -⟩ := fdq_FI wf (by omega) htg 5 (Nat.le_refl _)
  rw [← hF] at i2
  obtain ⟨j1, j2, j3, j4⟩ := i2 h3
  exact ⟨j1, j2, ⟨j2.1, j2.2, by omega⟩, j3, j4⟩
def PTH (d : BD) (w K : Nat) : Prop := ndp d w K ∧ okp d w K ∧ ∀ k, k < K → okp d w k ∧ ¬ ndp d w k
theorem PTH_one {d : BD} {w K K' : Nat} (h : PTH d w K) (h' : PTH d w K') : K = K' := by
  rcases Nat.lt_trichotomy K K' with z | z | z
  · exact absurd h.1 (h'.2.2 K z).2
  · exact z
  · exact absurd h'.1 (h.2.2 K' z).2
def PA (μ : Mem) (cs cl cr : Nat) (pc : Int32) (d : BD) (w : Nat) : Prop := ((VV d w 0 0).1 < 1000000 ∧ ∃ K, PTH d w K ∧ K ≤ 14 ∧ pc = nI K ∧ ∀ k, k < K → μ cs k = nI (srt d w k) ∧ μ cl k = nI (pos d w k).1 ∧ μ cr k = nI (pos d w k).2) ∨ (¬ (VV d w 0 0).1 < 1000000 ∧ pc = nI 0)
theorem pos_1 (d : BD) (w k : Nat) : (pos d w (k + 1)).1 = (pos d w k).1 + dl (srt d w k) := by unfold srt; rfl
theorem pos_2 (d : BD) (w k : Nat) : (pos d w (k + 1)).2 = (pos d w k).2 + dr (srt d w k) := by unfold srt; rfl
theorem at_srt {al w k : Nat} {d : BD} {μ : Mem} (hat : AT al μ d w) (h : okp d w k) (he : ¬ ndp d w k) : μ (al + 5) (8 * (pos d w k).1 + (pos d w k).2) = nI (srt d w k) := by
  unfold srt
  unfold ndp at he
  exact (hat _ _ h.1 h.2.1).2 h.2.2 he
theorem lt_eqp {α R : Type} (e : α) (f : α → Option R) : lt e f = f e := of_eq_true (by unfold lt; exact eq_self _)
theorem w_dec : (decide (¬ (8 : Int32) = 0)) = true := by decide
theorem ck_d {R : Type} (x : Option R) : ck (decide (¬ (8 : Int32) = 0)) x = x := by rw [w_dec, ck, if_pos rfl]
theorem w_div {a b : Nat} (ha : a ≤ 7) (hb : b ≤ 7) : nI (8 * a + b) / nI 8 = nI a := by
  rw [pk_div (by omega) (by omega) (by omega), show (8 * a + b) / 8 = a by omega]
theorem w_rem {a b : Nat} : nI (8 * a + b) - nI a * nI 8 = nI b := by
  rw [q_mul, q_sub (by omega), show 8 * a + b - a * 8 = b by omega]
theorem c_wbs {al a b s k f : Nat} {d : BD} {μ : Mem} (hal : isAl al) (wf : WFd d) (h8 : μ al 8 = nI (d 0 0)) (h9 : μ al 9 = nI (d 0 1)) (h10 : μ al 10 = nI k) (hfs : μ (al + 5) (8 * a + b) = nI s) (hne : ¬ 8 * a + b = 8 * d 0 0 + d 0 1) (hs : s < 5) (hv : avl d s a b) (hk : k < 14) :
    lp_X0_walkBest_19 al (f + 1) (nI (8 * a + b)) μ = lp_X0_walkBest_19 al f (nI (8 * (a + dl s) + (b + dr s))) (up (up (up (up μ (al + 6) k (nI s)) (al + 7) k (nI a)) (al + 8) k (nI b)) al 10 (nI (k + 1))) := by
  have w1 := wf.1
  have w2 := wf.2.1
  have t1 := hv.1
  have t2 := hv.2
  have hpl : 8 * a + b + (8 * dl s + dr s) = 8 * (a + dl s) + (b + dr s) := by omega
  have hdiv := w_div (a := a) (b := b) (by omega) (by omega)
  have hrem := w_rem (a := a) (b := b)
  rw [lp_X0_walkBest_19, c_end wf h8 h9, b2_some]
  simp only [ck_d]
  simp (disch := omega) only [lt_eqp, q_eq, hne, if_false, l_14, h10, q_le, show ¬ 14 ≤ k by omega, q_ck, q_cl, hfs, l_8, up_ne, hdiv, hrem, l_1, q_add, stv2, hpl]
theorem c_wb19 {al w : Nat} {d : BD} (hal : isAl al) (wf : WFd d) : ∀ (m k f : Nat) (μ : Mem), (d 0 0 - (pos d w k).1) + (d 0 1 - (pos d w k).2) = m → m < f → okp d w k → k + m ≤ 14 → μ al 8 = nI (d 0 0) → μ al 9 = nI (d 0 1) → μ al 10 = nI k → AT al μ d w →
    ∃ K μ', lp_X0_walkBest_19 al f (nI (8 * (pos d w k).1 + (pos d w k).2)) μ = some μ' ∧ k ≤ K ∧ K ≤ 14 ∧ ndp d w K ∧ okp d w K ∧ (∀ j, k ≤ j → j < K → okp d w j ∧ ¬ ndp d w j) ∧ μ' al 10 = nI K ∧ (∀ c, c ≠ al → c ≠ al + 6 → c ≠ al + 7 → c ≠ al + 8 → μ' c = μ c) ∧ (∀ i, i ≠ 10 → μ' al i = μ al i) ∧ (∀ j, k ≤ j → j < K → μ' (al + 6) j = nI (srt d w j) ∧ μ' (al + 7) j = nI (pos d w j).1 ∧ μ' (al + 8) j = nI (pos d w j).2) ∧ (∀ j, j < k → μ' (al + 6) j = μ (al + 6) j ∧ μ' (al + 7) j = μ (al + 7) j ∧ μ' (al + 8) j = μ (al + 8) j) := by
  have w1 := wf.1
  have w2 := wf.2.1
  intro m
  induction m using Nat.strongRecOn with
  | ind m ih =>
    intro k f μ hm hf hok hk h8 h9 h10 hat
    obtain ⟨f, rfl⟩ : ∃ x, f = x + 1 := ⟨f - 1, by omega⟩
    have hb1 := hok.1
    have hb2 := hok.2.1
    by_cases he : ndp d w k
    · refine ⟨k, μ, ?_, Nat.le_refl _, by omega, he, hok, fun j x y => by omega, h10, fun _ _ _ _ _ => rfl, fun _ _ => rfl, fun j x y => by omega, fun _ _ => ⟨rfl, rfl, rfl⟩⟩
      simp (disch := omega) only [lp_X0_walkBest_19, c_end wf h8 h9, b2_some, q_eq, show 8 * (pos d w k).1 + (pos d w k).2 = 8 * d 0 0 + d 0 1 by rw [he.1, he.2], if_true]
    · obtain ⟨s1, s2, s3, -⟩ := okp_step wf hok he
      have hne : ¬ 8 * (pos d w k).1 + (pos d w k).2 = 8 * d 0 0 + d 0 1 := by
        intro z
        apply he
        unfold ndp
        omega
      have hm1 : 1 ≤ m := by
        rcases Nat.lt_or_ge 0 m with z | z
        · exact z
        · exfalso; apply he; unfold ndp; omega
      have hfs' := at_srt hat hok he
      have hp1 := pos_1 d w k
      have hp2 := pos_2 d w k
      have hd5 := dlr _ s1
      have t1 := s2.1
      have t2 := s2.2
      obtain ⟨K, μ', e1, e2, e3, e4, e5, e6, e7, e8, e9, e10, e11⟩ := ih (m - (dl (srt d w k) + dr (srt d w k))) (by omega) (k + 1) f (up (up (up (up μ (al + 6) k (nI (srt d w k))) (al + 7) k (nI (pos d w k).1)) (al + 8) k (nI (pos d w k).2)) al 10 (nI (k + 1))) (by rw [hp1, hp2]; omega) (by omega) s3 (by omega)
        (by rw [up_ot (by omega), up_ne (by omega), up_ne (by omega), up_ne (by omega)]; exact h8) (by rw [up_ot (by omega), up_ne (by omega), up_ne (by omega), up_ne (by omega)]; exact h9) (up_at _ _ _ _)
        (AT_fr hat (by rw [up_ne (by omega), up_ne (by omega), up_ne (by omega), up_ne (by omega)]) (by rw [up_ne (by omega), up_ne (by omega), up_ne (by omega), up_ne (by omega)]))
      refine ⟨K, μ', ?_, by omega, e3, e4, e5, fun j x y => ?_, e7, fun c x1 x2 x3 x4 => ?_, fun i hi => ?_, fun j x y => ?_, fun j x => ?_⟩
      · rw [← e1]
        rw [hp1, hp2]
        exact c_wbs hal wf h8 h9 h10 hfs' hne s1 s2 (by omega)
      · by_cases z : j = k
        · subst z; exact ⟨hok, he⟩
        · exact e6 j (by omega) y
      · rw [e8 c x1 x2 x3 x4, up_ne x1, up_ne x4, up_ne x3, up_ne x2]
      · rw [e9 i hi, up_ot hi, up_ne (by omega), up_ne (by omega), up_ne (by omega)]
      · by_cases z : j = k
        · subst z
          obtain ⟨z1, z2, z3⟩ := e11 j (by omega)
          rw [z1, z2, z3]
          refine ⟨?_, ?_, ?_⟩
          · rw [up_ne (by omega), up_ne (by omega), up_ne (by omega), up_at]
          · rw [up_ne (by omega), up_ne (by omega), up_at]
          · rw [up_ne (by omega), up_at]
        · exact e10 j (by omega) y
      · obtain ⟨z1, z2, z3⟩ := e11 j (by omega)
        rw [z1, z2, z3]
        refine ⟨?_, ?_, ?_⟩
        · rw [up_ne (by omega), up_ne (by omega), up_ne (by omega), up_ot (by omega)]
        · rw [up_ne (by omega), up_ne (by omega), up_ot (by omega), up_ne (by omega)]
        · rw [up_ne (by omega), up_ot (by omega), up_ne (by omega), up_ne (by omega)]
theorem c_walkBest {al w : Nat} {d : BD} {μ : Mem} (hal : isAl al) (wf : WFd d) (h8 : μ al 8 = nI (d 0 0)) (h9 : μ al 9 = nI (d 0 1)) (hat : AT al μ d w) :
    ∃ μ', f_X0_walkBest al μ = some μ' ∧ (∀ c, c ≠ al → c ≠ al + 6 → c ≠ al + 7 → c ≠ al + 8 → μ' c = μ c) ∧ (∀ i, i ≠ 10 → μ' al i = μ al i) ∧ PA μ' (al + 6) (al + 7) (al + 8) (μ' al 10) d w := by
  have w1 := wf.1
  have w2 := wf.2.1
  have hz : (0 : Int32).toNatClampNeg = 0 := by decide
  have hin : inb (0 : Int32) 64 = true := by decide
  have h00 : μ (al + 2) 0 = nI (VV d w 0 0).1 := (hat 0 0 (Nat.zero_le _) (Nat.zero_le _)).1
  have hle := VV_le (w := w) wf (Nat.zero_le _) (Nat.zero_le _)
  by_cases hi : (VV d w 0 0).1 < 1000000
  · obtain ⟨K, μ', e1, e2, e3, e4, e5, e6, e7, e8, e9, e10, e11⟩ := c_wb19 (w := w) hal wf (d 0 0 + d 0 1) 0 FU (up μ al 10 (nI 0)) (by show (d 0 0 - 0) + (d 0 1 - 0) = _; omega) (by unfold FU; omega) ⟨Nat.zero_le _, Nat.zero_le _, hi⟩ (by omega)
      (by rw [up_ot (by omega)]; exact h8) (by rw [up_ot (by omega)]; exact h9) (up_at _ _ _ _) (AT_fr hat (up_ne (by omega)) (up_ne (by omega)))
    have e1' : lp_X0_walkBest_19 al FU (nI 0) (up μ al 10 (nI 0)) = some μ' := e1
    refine ⟨μ', ?_, fun c x1 x2 x3 x4 => by rw [e8 c x1 x2 x3 x4, up_ne x1], fun i x => by rw [e9 i x, up_ot x], Or.inl ⟨hi, K, ⟨e4, e5, fun k x => e6 k (Nat.zero_le _) x⟩, e3, e7, fun k x => e10 k (Nat.zero_le _) x⟩⟩
    simp (disch := omega) only [f_X0_walkBest, lt_eq, q_ck, q_cl, up_ne, h00, l_m, q_lt, hi, if_true, l_0, e1', b1_some]
  · refine ⟨up μ al 10 (nI 0), ?_, fun c x1 x2 x3 x4 => up_ne x1, fun i x => up_ot x, Or.inr ⟨hi, up_at _ _ _ _⟩⟩
    simp (disch := omega) only [f_X0_walkBest, lt_eq, q_ck, q_cl, up_ne, h00, l_m, q_lt, hi, if_false, l_0]
/-! what an aligner holds of books -/
def AR (al : Nat) (μ : Mem) (d : BD) : Prop := PC al μ d ∧ μ (al + 2) 0 = nI (VV d (d 0 4) 0 0).1 ∧ μ (al + 3) 0 = nI (VV d (d 0 4) 0 0).2.1 ∧ μ (al + 4) 0 = nI (VV d (d 0 4) 0 0).2.2.1 ∧ PA μ (al + 6) (al + 7) (al + 8) (μ al 10) d (d 0 4)
theorem c_align {al bq : Nat} {d : BD} {μ : Mem} (hal : isAl al) (hbq : isBk bq) (wf : WFd d) (h : BKc bq μ d) :
    ∃ μ', f_X0_align al bq μ = some μ' ∧ (∀ c, c < al ∨ al + 8 < c → μ' c = μ c) ∧ AR al μ' d := by
  have w5 := wf.2.2.2.2.1
  obtain ⟨μ1, e1, e2, e3, e4, e5⟩ := c_take hal hbq wf h
  have hb1 : BKc bq μ1 d := BKc_fr h (e2 _ (by omega) (by omega)) (e2 _ (by omega) (by omega)) (e2 _ (by omega) (by omega)) (e2 _ (by omega) (by omega)) (e2 _ (by omega) (by omega)) (e2 _ (by omega) (by omega))
  obtain ⟨μ2, f1, f2, f3⟩ := c_leastBy (wb := d 0 4) hal wf w5 e3 e4 e5
  have f3' : AT al μ2 d (d 0 4) := f3
  obtain ⟨μ3, g1, g2, g3⟩ := c_fillOthers hal wf (by rw [f2 _ (by omega) (by omega)]; exact e3) (by rw [f2 _ (by omega) (by omega)]; exact e4) (PC_fr e5 (f2 _ (by omega) (by omega))) f3'
  have f4 : AT al μ3 d (d 0 4) := AT_fr f3' (g2 _ (by omega) (by omega)) (g2 _ (by omega) (by omega))
  obtain ⟨μ4, h1, h2, h3, h4⟩ := c_walkBest hal wf (by rw [g2 _ (by omega) (by omega), f2 _ (by omega) (by omega)]; exact e3) (by rw [g2 _ (by omega) (by omega), f2 _ (by omega) (by omega)]; exact e4) f4
  refine ⟨μ4, ?_, fun c hc => ?_, ?_, ?_, ?_, ?_, h4⟩
  · have hb9 : μ1 bq 9 = nI (d 0 4) := hb1.2.2.2.2.1
    simp only [f_X0_align, e1, b1_some, hb9, f1, b2_some, g1, h1]
  · rw [h2 c (by omega) (by omega) (by omega) (by omega), g2 c (by omega) (by omega), f2 c (by omega) (by omega), e2 c (by omega) (by omega)]
  · exact PC_fr (PC_fr (PC_fr e5 (f2 _ (by omega) (by omega))) (g2 _ (by omega) (by omega))) (h2 _ (by omega) (by omega) (by omega) (by omega))
  · rw [h2 _ (by omega) (by omega) (by omega) (by omega)]
    exact (f4 0 0 (Nat.zero_le _) (Nat.zero_le _)).1
  · rw [h2 _ (by omega) (by omega) (by omega) (by omega)]
    exact (g3 0 0 (Nat.zero_le _) (Nat.zero_le _)).1
  · rw [h2 _ (by omega) (by omega) (by omega) (by omega)]
    exact (g3 0 0 (Nat.zero_le _) (Nat.zero_le _)).2
