theorem PA_two {μ1 μ2 : Mem} {cs cl cr w : Nat} {pc pm : Int32} {d : BD} (wf : WFd d) (h1 : PA μ1 cs cl cr pc d w) (h2 : PA μ2 58 59 60 pm d w) : ∃ K, K ≤ 14 ∧ pc = nI K ∧ pm = nI K ∧ (K = 0 ↔ (¬ (VV d w 0 0).1 < 1000000 ∨ d 0 0 = 0)) ∧ ∀ k, k < K → (srt d w k < 5 ∧ avl d (srt d w k) (pos d w k).1 (pos d w k).2) ∧ (μ1 cs k = nI (srt d w k) ∧ μ1 cl k = nI (pos d w k).1 ∧ μ1 cr k = nI (pos d w k).2) ∧ (μ2 58 k = nI (srt d w k) ∧ μ2 59 k = nI (pos d w k).1 ∧ μ2 60 k = nI (pos d w k).2) := by
  unfold PA at h1 h2
  rcases h1 with ⟨a, K, b, c, e, f⟩ | ⟨a, e⟩ <;> rcases h2 with ⟨a', K', b', c', e', f'⟩ | ⟨a', e'⟩
  · have := PTH_one b b'
    subst this
    refine ⟨K, c, e, e', ⟨fun z => .inr ?_, fun z => ?_⟩, fun k hk => ⟨?_, f k hk, f' k hk⟩⟩
    · subst z
      exact b.1.1.symm
    · rcases z with z | z
      · exact absurd a z
      · have z1 := wf.2.2.2.2.2.2.2.1 z
        have : PTH d w 0 := ⟨⟨z.symm, z1.symm⟩, ⟨Nat.zero_le _, Nat.zero_le _, a⟩, fun k hk => by omega⟩
        exact PTH_one b this
    · obtain ⟨o, n⟩ := b.2.2 k hk
      have := okp_step wf o n
      exact ⟨this.1, this.2.1⟩
  · exact absurd a a'
  · exact absurd a' a
  · exact ⟨0, by omega, e, e', ⟨fun _ => .inl a, fun _ => rfl⟩, fun k hk => by omega⟩
def sv (b r : Nat) : Int32 := (((1 : Int32) <<< (nI r &&& 31)) - 1) <<< (nI b &&& 31)
def ctr (x a l b r : Nat) : Int32 := if a ≤ x ∧ x < a + l then sv b r else 0
def Uv (f : Nat → Int32) : Nat → Int32
  | 0 => 0
  | n + 1 => Uv f n ||| f n
theorem or0 (x : Int32) : x ||| 0 = x := by
  apply Int32.toBitVec_inj.1
  simp
theorem c_isIn {x a l : Nat} {μ : Mem} (hx : x < 100) (ha : a < 100) (hl : l < 100) : f_X0_isIn (nI x) (nI a) (nI l) μ = some (if a ≤ x ∧ x < a + l then nI 1 else nI 0, μ) := by
  simp (disch := omega) only [f_X0_isIn, q_lt, q_add, q_le]
  split
  · rw [if_neg (by omega)]; rfl
  · split
    · rw [if_neg (by omega)]; rfl
    · rw [if_pos (by omega)]; rfl
theorem c_rw4 {al x K : Nat} {μ : Mem} {d : BD} {S A B : Nat → Nat} (wf : WFd d) (hx : x < 7) (hK : K ≤ 14) (h10 : μ al 10 = nI K) (hk : ∀ k, k < K → (S k < 5 ∧ avl d (S k) (A k) (B k)) ∧ (μ (al + 6) k = nI (S k) ∧ μ (al + 7) k = nI (A k) ∧ μ (al + 8) k = nI (B k))) : ∀ (m n f : Nat), n + m = K → m < f → lp_X0_rightsWith_4 al (nI x) f (Uv (fun k => ctr x (A k) (dl (S k)) (B k) (dr (S k))) n) (nI n) μ = some (Uv (fun k => ctr x (A k) (dl (S k)) (B k) (dr (S k))) K, μ) := by
  intro m
  induction m with
  | zero =>
    intro n f hn hf
    obtain ⟨f, rfl⟩ : ∃ m, f = m + 1 := ⟨f - 1, by omega⟩
    rw [lp_X0_rightsWith_4, h10, show n = K by omega, if_pos (Int32.le_refl _)]
  | succ m ih =>
    intro n f hn hf
    obtain ⟨f, rfl⟩ : ∃ m, f = m + 1 := ⟨f - 1, by omega⟩
    obtain ⟨⟨a1, a2, a3⟩, a4, a5, a6⟩ := hk n (by omega)
    have w1 := wf.1
    have w2 := wf.2.1
    have q1 := dl_le (S n)
    have q2 := dr_le (S n)
    have IH := ih (n + 1) f (by omega) (by omega)
    rw [lp_X0_rightsWith_4, h10, if_neg (show ¬ nI K ≤ nI n by rw [q_le (by omega) (by omega)]; omega)]
    simp (disch := omega) only [q_ck, q_cl, a4, a5, a6, stv0, stv1, c_isIn, b2_some, f_X0_setOf, lt_eq]
    rw [Uv] at IH
    by_cases c : A n ≤ x ∧ x < A n + dl (S n)
    · rw [if_pos c, if_neg (e10 ▸ not_false), l_1, q_add, ← l_1]
      rw [show ctr x (A n) (dl (S n)) (B n) (dr (S n)) = sv (B n) (dr (S n)) from if_pos c] at IH
      exact IH
    · rw [if_neg c, if_pos (e00 ▸ trivial), l_1, q_add]
      rw [show ctr x (A n) (dl (S n)) (B n) (dr (S n)) = 0 from if_neg c, or0] at IH
      exact IH
theorem c_lw4 {al x K : Nat} {μ : Mem} {d : BD} {S A B : Nat → Nat} (wf : WFd d) (hx : x < 7) (hK : K ≤ 14) (h10 : μ al 10 = nI K) (hk : ∀ k, k < K → (S k < 5 ∧ avl d (S k) (A k) (B k)) ∧ (μ (al + 6) k = nI (S k) ∧ μ (al + 7) k = nI (A k) ∧ μ (al + 8) k = nI (B k))) : ∀ (m n f : Nat), n + m = K → m < f → lp_X0_leftsWith_4 al (nI x) f (Uv (fun k => ctr x (B k) (dr (S k)) (A k) (dl (S k))) n) (nI n) μ = some (Uv (fun k => ctr x (B k) (dr (S k)) (A k) (dl (S k))) K, μ) := by
  intro m
  induction m with
  | zero =>
    intro n f hn hf
    obtain ⟨f, rfl⟩ : ∃ m, f = m + 1 := ⟨f - 1, by omega⟩
    rw [lp_X0_leftsWith_4, h10, show n = K by omega, if_pos (Int32.le_refl _)]
  | succ m ih =>
    intro n f hn hf
    obtain ⟨f, rfl⟩ : ∃ m, f = m + 1 := ⟨f - 1, by omega⟩
    obtain ⟨⟨a1, a2, a3⟩, a4, a5, a6⟩ := hk n (by omega)
    have w1 := wf.1
    have w2 := wf.2.1
    have q1 := dl_le (S n)
    have q2 := dr_le (S n)
    have IH := ih (n + 1) f (by omega) (by omega)
    rw [lp_X0_leftsWith_4, h10, if_neg (show ¬ nI K ≤ nI n by rw [q_le (by omega) (by omega)]; omega)]
    simp (disch := omega) only [q_ck, q_cl, a4, a5, a6, stv0, stv1, c_isIn, b2_some, f_X0_setOf, lt_eq]
    rw [Uv] at IH
    by_cases c : B n ≤ x ∧ x < B n + dr (S n)
    · rw [if_pos c, if_neg (e10 ▸ not_false), l_1, q_add, ← l_1]
      rw [show ctr x (B n) (dr (S n)) (A n) (dl (S n)) = sv (A n) (dl (S n)) from if_pos c] at IH
      exact IH
    · rw [if_neg c, if_pos (e00 ▸ trivial), l_1, q_add]
      rw [show ctr x (B n) (dr (S n)) (A n) (dl (S n)) = 0 from if_neg c, or0] at IH
      exact IH
theorem m_pwj {x a l b r n : Nat} {acc x1 : Int32} {ih : Int32 → Int32 → Mem → Option (Int32 × Mem)} {μ : Mem} (hx : x < 100) (ha : a < 100) (hl : l < 100) : jn_X5_pairedWith_116 ih x1 (nI x) acc (nI n) (nI a) (nI l) (nI b) (nI r) μ = ih (acc ||| ctr x a l b r) (nI (n + 1)) μ := by
  simp (disch := omega) only [jn_X5_pairedWith_116, q_lt, q_add, q_le, lt_eq]
  unfold ctr sv
  by_cases c : x < a
  · rw [if_pos c, if_neg (by omega), l_1, q_add]
  · by_cases c2 : a + l ≤ x
    · rw [if_neg c, if_pos c2, if_neg (by omega), l_1, q_add]
    · rw [if_neg c, if_neg c2, if_pos (by omega), l_1, q_add]
theorem m_pw0 {x K : Nat} {μ : Mem} {d : BD} {S A B : Nat → Nat} (wf : WFd d) (hx : x < 7) (hK : K ≤ 14) (h10 : μ 43 24 = nI K) (hk : ∀ k, k < K → (S k < 5 ∧ avl d (S k) (A k) (B k)) ∧ (μ 58 k = nI (S k) ∧ μ 59 k = nI (A k) ∧ μ 60 k = nI (B k))) : ∀ (m n f : Nat), n + m = K → m < f → lp_X5_pairedWith_5 (nI 0) (nI x) f (Uv (fun k => ctr x (A k) (dl (S k)) (B k) (dr (S k))) n) (nI n) μ = some (Uv (fun k => ctr x (A k) (dl (S k)) (B k) (dr (S k))) K, μ) := by
  intro m
  induction m with
  | zero =>
    intro n f hn hf
    obtain ⟨f, rfl⟩ : ∃ m, f = m + 1 := ⟨f - 1, by omega⟩
    rw [lp_X5_pairedWith_5, h10, show n = K by omega, if_pos (Int32.le_refl _)]
  | succ m ih =>
    intro n f hn hf
    obtain ⟨f, rfl⟩ : ∃ m, f = m + 1 := ⟨f - 1, by omega⟩
    obtain ⟨⟨a1, a2, a3⟩, a4, a5, a6⟩ := hk n (by omega)
    have w1 := wf.1
    have w2 := wf.2.1
    have q1 := dl_le (S n)
    have q2 := dr_le (S n)
    have IH := ih (n + 1) f (by omega) (by omega)
    rw [lp_X5_pairedWith_5, h10, if_neg (show ¬ nI K ≤ nI n by rw [q_le (by omega) (by omega)]; omega)]
    simp (disch := omega) only [q_ck, q_cl, a4, a5, a6, jn_X5_pairedWith_35, jn_X5_pairedWith_64, jn_X5_pairedWith_87, e00, if_true, m_leftsOf, m_rightsOf, b2_some, m_pwj]
    exact IH
theorem m_pw1 {x K : Nat} {μ : Mem} {d : BD} {S A B : Nat → Nat} (wf : WFd d) (hx : x < 7) (hK : K ≤ 14) (h10 : μ 43 24 = nI K) (hk : ∀ k, k < K → (S k < 5 ∧ avl d (S k) (A k) (B k)) ∧ (μ 58 k = nI (S k) ∧ μ 59 k = nI (A k) ∧ μ 60 k = nI (B k))) : ∀ (m n f : Nat), n + m = K → m < f → lp_X5_pairedWith_5 (nI 1) (nI x) f (Uv (fun k => ctr x (B k) (dr (S k)) (A k) (dl (S k))) n) (nI n) μ = some (Uv (fun k => ctr x (B k) (dr (S k)) (A k) (dl (S k))) K, μ) := by
  intro m
  induction m with
  | zero =>
    intro n f hn hf
    obtain ⟨f, rfl⟩ : ∃ m, f = m + 1 := ⟨f - 1, by omega⟩
    rw [lp_X5_pairedWith_5, h10, show n = K by omega, if_pos (Int32.le_refl _)]
  | succ m ih =>
    intro n f hn hf
    obtain ⟨f, rfl⟩ : ∃ m, f = m + 1 := ⟨f - 1, by omega⟩
    obtain ⟨⟨a1, a2, a3⟩, a4, a5, a6⟩ := hk n (by omega)
    have w1 := wf.1
    have w2 := wf.2.1
    have q1 := dl_le (S n)
    have q2 := dr_le (S n)
    have IH := ih (n + 1) f (by omega) (by omega)
    rw [lp_X5_pairedWith_5, h10, if_neg (show ¬ nI K ≤ nI n by rw [q_le (by omega) (by omega)]; omega)]
    simp (disch := omega) only [q_ck, q_cl, a4, a5, a6, jn_X5_pairedWith_35, jn_X5_pairedWith_64, jn_X5_pairedWith_87, e10, if_false, m_leftsOf, m_rightsOf, b2_some, m_pwj]
    exact IH
theorem rwE {al x : Nat} {μ1 μ2 : Mem} {d : BD} (wf : WFd d) (hx : x < 7) (h1 : AR al μ1 d) (h2 : MB μ2 d) : ∃ v, f_X0_rightsWith al (nI x) μ1 = some (v, μ1) ∧ f_X5_pairedWith 0 (nI x) μ2 = some (v, μ2) := by
  obtain ⟨K, a1, a2, a3, a4, a5⟩ := PA_two wf h1.2.2.2.2 h2.2.2.2
  refine ⟨Uv (fun k => ctr x (pos d (d 0 4) k).1 (dl (srt d (d 0 4) k)) (pos d (d 0 4) k).2 (dr (srt d (d 0 4) k))) K, ?_, ?_⟩
  · unfold f_X0_rightsWith
    have := c_rw4 (S := srt d (d 0 4)) (A := fun k => (pos d (d 0 4) k).1) (B := fun k => (pos d (d 0 4) k).2) wf hx a1 a2 (fun k hk => ⟨(a5 k hk).1, (a5 k hk).2.1⟩) K 0 FU (by omega) (by unfold FU; omega)
    rw [Uv] at this
    rw [show (0 : Int32) = nI 0 from rfl] at this ⊢
    rw [this]; rfl
  · unfold f_X5_pairedWith
    have := m_pw0 (S := srt d (d 0 4)) (A := fun k => (pos d (d 0 4) k).1) (B := fun k => (pos d (d 0 4) k).2) wf hx a1 a3 (fun k hk => ⟨(a5 k hk).1, (a5 k hk).2.2⟩) K 0 FU (by omega) (by unfold FU; omega)
    rw [Uv] at this
    rw [show (0 : Int32) = nI 0 from rfl] at this ⊢
    rw [this]; rfl
theorem lwE {al x : Nat} {μ1 μ2 : Mem} {d : BD} (wf : WFd d) (hx : x < 7) (h1 : AR al μ1 d) (h2 : MB μ2 d) : ∃ v, f_X0_leftsWith al (nI x) μ1 = some (v, μ1) ∧ f_X5_pairedWith 1 (nI x) μ2 = some (v, μ2) := by
  obtain ⟨K, a1, a2, a3, a4, a5⟩ := PA_two wf h1.2.2.2.2 h2.2.2.2
  refine ⟨Uv (fun k => ctr x (pos d (d 0 4) k).2 (dr (srt d (d 0 4) k)) (pos d (d 0 4) k).1 (dl (srt d (d 0 4) k))) K, ?_, ?_⟩
  · unfold f_X0_leftsWith
    have := c_lw4 (S := srt d (d 0 4)) (A := fun k => (pos d (d 0 4) k).1) (B := fun k => (pos d (d 0 4) k).2) wf hx a1 a2 (fun k hk => ⟨(a5 k hk).1, (a5 k hk).2.1⟩) K 0 FU (by omega) (by unfold FU; omega)
    rw [Uv] at this
    rw [show (0 : Int32) = nI 0 from rfl] at this ⊢
    rw [this]; rfl
  · unfold f_X5_pairedWith
    have := m_pw1 (S := srt d (d 0 4)) (A := fun k => (pos d (d 0 4) k).1) (B := fun k => (pos d (d 0 4) k).2) wf hx a1 a3 (fun k hk => ⟨(a5 k hk).1, (a5 k hk).2.2⟩) K 0 FU (by omega) (by unfold FU; omega)
    rw [Uv] at this
    rw [show (0 : Int32) = nI 0 from rfl] at this ⊢
    rw [l_1, this]; rfl
