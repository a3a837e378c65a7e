theorem m_onb {a b s w x y : Nat} {d : BD} {μ : Mem} (wf : WFd d) (hs : s < 5) (ha : a ≤ d 0 0) (hb : b ≤ d 0 1) (hw : w ≤ 7) (hbk : BKm μ d) (hw9 : d 0 4 = w) (hx : avl d s a b → μ 55 (8 * (a + dl s) + (b + dr s)) = nI x) (hxl : x ≤ 99999) (hy : μ 55 (8 * a + b) = nI y) (hyl : y ≤ 99999) :
    f_X5_isOnBest (nI s) (nI a) (nI b) μ = some (nI (if ((a + dl s ≤ d 0 0 ∧ b + dr s ≤ d 0 1) ∧ (a + dl s ≤ b + dr s + w ∧ b + dr s ≤ a + dl s + w)) ∧ cst d s a b + x = y then 1 else 0), μ) := by
  have w1 := wf.1
  have w2 := wf.2.1
  have e1 := dl_le s
  have e2 := dr_le s
  have h9 : μ 43 9 = nI w := by rw [← hw9]; exact hbk.2.2.2.2.1
  have hsd := m_isStand (a := a + dl s) (b := b + dr s) hbk wf (by omega) (by omega) hw
  by_cases hv : (a + dl s ≤ d 0 0 ∧ b + dr s ≤ d 0 1) ∧ (a + dl s ≤ b + dr s + w ∧ b + dr s ≤ a + dl s + w)
  · rw [if_pos hv] at hsd
    have hcost := m_costOf hbk wf hs hv.1
    have hc := cst_le wf hs hv.1
    have hx' := hx hv.1
    have hv1 := hv.1.1
    have hv2 := hv.1.2
    simp (disch := omega) only [f_X5_isOnBest, m_leftsOf, m_rightsOf, b2_some, lt_eq, q_add, h9, hsd, l_0, l_1, q_eq, Nat.reduceEqDiff, if_false, hcost, l_8, q_mul, q_ck, q_cl, hx', hy, hv, and_self, true_and]
    split <;> rfl
  · rw [if_neg hv] at hsd
    simp (disch := omega) only [f_X5_isOnBest, m_leftsOf, m_rightsOf, b2_some, lt_eq, q_add, h9, hsd, l_0, if_true, hv, false_and, if_false]
theorem m_fb43 {a b t : Nat} {μ : Mem} {x1 : Int32} (h1 : ∀ s, s < t → f_X5_isOnBest (nI s) (nI a) (nI b) μ = some (nI 0, μ)) (h2 : f_X5_isOnBest (nI t) (nI a) (nI b) μ = some (nI 1, μ)) (ht : t < 5) : ∀ (k s f : Nat), s + k = t → k < f → lp_X5_findBest_43 x1 (nI a) (nI b) f (nI s) μ = some (nI t, μ) := by
  intro k
  induction k with
  | zero =>
    intro s f hs hf
    obtain ⟨f, rfl⟩ : ∃ m, f = m + 1 := ⟨f - 1, by omega⟩
    have : s = t := by omega
    subst this
    simp (disch := omega) only [lp_X5_findBest_43, h2, b2_some, l_0, q_eq, Nat.reduceEqDiff, if_false]
  | succ k ih =>
    intro s f hs hf
    obtain ⟨f, rfl⟩ : ∃ m, f = m + 1 := ⟨f - 1, by omega⟩
    rw [← ih (s + 1) f (by omega) (by omega)]
    simp (disch := omega) only [lp_X5_findBest_43, h1 s (by omega), b2_some, l_0, if_true, lt_eq, l_1, q_add]
theorem m_best_s {w k : Nat} {d : BD} {μ : Mem} (wf : WFd d) (hw9 : d 0 4 = w) (hok : okp d w k) (he : ¬ ndp d w k) (hbk : BKm μ d) (hms : ∀ a' b', a' ≤ d 0 0 → b' ≤ d 0 1 → MS μ d w a' b') {x1 : Int32} : lp_X5_findBest_43 x1 (nI (pos d w k).1) (nI (pos d w k).2) FU (nI 0) μ = some (nI (srt d w k), μ) := by
  have w1 := wf.1
  have w2 := wf.2.1
  have w5 := wf.2.2.2.2.1
  obtain ⟨s1, s2, s3, s4, s5⟩ := okp_step wf hok he
  obtain ⟨k1, k2, k3⟩ := hok
  have hp1 := pos_1 d w k
  have hp2 := pos_2 d w k
  rw [hp1, hp2] at s4
  obtain ⟨-, -, o3⟩ := s3
  rw [hp1, hp2] at o3
  generalize (pos d w k).1 = a at *
  generalize (pos d w k).2 = b at *
  generalize srt d w k = t at *
  have hh := (hms a b k1 k2).1
  have hr0 := (VV_rng (w := w) wf k1 k2).1
  have hmo : mo (VV d w a b).1 = (VV d w a b).1 := by unfold mo; rw [if_neg (by omega)]
  rw [hmo] at hh
  refine m_fb43 ?_ ?_ s1 t 0 FU (Nat.zero_add t) (by unfold FU; omega)
  · intro s hs
    by_cases hv : avl d s a b
    · have hm := (hms _ _ hv.1 hv.2).1
      have hr := (VV_rng (w := w) wf hv.1 hv.2).1
      have hlt := s5 s hs hv
      have hml := mo_le hr
      have hgt : ¬ cst d s a b + mo (VV d w (a + dl s) (b + dr s)).1 = (VV d w a b).1 := by
        unfold mo
        split <;> omega
      generalize mo (VV d w (a + dl s) (b + dr s)).1 = X at *
      generalize (VV d w a b).1 = Y at *
      rw [m_onb wf (by omega) k1 k2 (by omega) hbk hw9 (fun _ => hm) hml hh (by omega), if_neg (fun z => hgt z.2)]
    · generalize (VV d w a b).1 = Y at *
      rw [m_onb (x := 0) wf (by omega) k1 k2 (by omega) hbk hw9 (fun z => absurd z hv) (by omega) hh (by omega), if_neg (fun z => hv z.1.1)]
  · have hm := (hms _ _ s2.1 s2.2).1
    have hr := (VV_rng (w := w) wf s2.1 s2.2).1
    have hmo2 : mo (VV d w (a + dl t) (b + dr t)).1 = (VV d w (a + dl t) (b + dr t)).1 := by unfold mo; rw [if_neg (by omega)]
    rw [hmo2] at hm
    have hin : a + dl t ≤ b + dr t + w ∧ b + dr t ≤ a + dl t + w := by
      have z1 := VV_1 (w := w) wf s2.1 s2.2
      by_cases z : a + dl t ≤ b + dr t + w ∧ b + dr t ≤ a + dl t + w
      · exact z
      · rw [if_neg z] at z1; omega
    generalize (VV d w (a + dl t) (b + dr t)).1 = X at *
    generalize (VV d w a b).1 = Y at *
    rw [m_onb wf s1 k1 k2 (by omega) hbk hw9 (fun _ => hm) (by omega) hh (by omega), if_pos ⟨⟨s2, hin⟩, s4⟩]
theorem m_fbs {a b s k f : Nat} {d : BD} {μ : Mem} {x1 : Int32} (hx1 : ¬ x1 = -9) (wf : WFd d) (hbk : BKm μ d) (h24 : μ 43 24 = nI k) (hk : k < 14) (hs : s < 5) (ha : a ≤ d 0 0) (hb : b ≤ d 0 1) (hne : ¬ (a = d 0 0 ∧ b = d 0 1)) (h43 : lp_X5_findBest_43 x1 (nI a) (nI b) FU (nI 0) μ = some (nI s, μ)) :
    lp_X5_findBest_18 x1 (f + 1) (nI a) (nI b) μ = lp_X5_findBest_18 x1 f (nI (a + dl s)) (nI (b + dr s)) (up (up (up (up μ 58 k (nI s)) 59 k (nI a)) 60 k (nI b)) 43 24 (nI (k + 1))) := by
  have w1 := wf.1
  have w2 := wf.2.1
  have hj : jn_X5_findBest_40 (lp_X5_findBest_18 x1 f) x1 (nI a) (nI b) μ = lp_X5_findBest_18 x1 f (nI (a + dl s)) (nI (b + dr s)) (up (up (up (up μ 58 k (nI s)) 59 k (nI a)) 60 k (nI b)) 43 24 (nI (k + 1))) := by
    simp (disch := omega) only [jn_X5_findBest_40, l_0, h43, b2_some, h24, q_ck, q_cl, lt_eq, up_ne, l_1, q_add, m_leftsOf, m_rightsOf]
  rw [← hj]
  simp (disch := omega) only [lp_X5_findBest_18, hx1, if_false, hbk.1, hbk.2.1, q_lt, q_le]
  split
  · rfl
  · rw [if_neg (by omega)]
theorem m_fb18 {w : Nat} {d : BD} {x1 : Int32} (hx1 : ¬ x1 = -9) (wf : WFd d) (hw9 : d 0 4 = w) : ∀ (m k f : Nat) (μ : Mem), (d 0 0 - (pos d w k).1) + (d 0 1 - (pos d w k).2) = m → m < f → okp d w k → k + m ≤ 14 → BKm μ d → μ 43 24 = nI k → (∀ a' b', a' ≤ d 0 0 → b' ≤ d 0 1 → MS μ d w a' b') →
    ∃ K μ', lp_X5_findBest_18 x1 f (nI (pos d w k).1) (nI (pos d w k).2) μ = some μ' ∧ k ≤ K ∧ K ≤ 14 ∧ ndp d w K ∧ okp d w K ∧ (∀ j, k ≤ j → j < K → okp d w j ∧ ¬ ndp d w j) ∧ μ' 43 24 = nI K ∧ (∀ c, c ≠ 43 → c ≠ 58 → c ≠ 59 → c ≠ 60 → μ' c = μ c) ∧ (∀ i, i ≠ 24 → μ' 43 i = μ 43 i) ∧ (∀ j, k ≤ j → j < K → μ' 58 j = nI (srt d w j) ∧ μ' 59 j = nI (pos d w j).1 ∧ μ' 60 j = nI (pos d w j).2) ∧ (∀ j, j < k → μ' 58 j = μ 58 j ∧ μ' 59 j = μ 59 j ∧ μ' 60 j = μ 60 j) := by
  have w1 := wf.1
  have w2 := wf.2.1
  intro m
  induction m using Nat.strongRecOn with
  | ind m ih =>
    intro k f μ hm hf hok hk hbk h24 hms
    obtain ⟨f, rfl⟩ : ∃ x, f = x + 1 := ⟨f - 1, by omega⟩
    have hb1 := hok.1
    have hb2 := hok.2.1
    by_cases he : ndp d w k
    · refine ⟨k, μ, ?_, Nat.le_refl _, by omega, he, hok, fun j x y => by omega, h24, fun _ _ _ _ _ => rfl, fun _ _ => rfl, fun j x y => by omega, fun _ _ => ⟨rfl, rfl, rfl⟩⟩
      rw [he.1, he.2]
      simp (disch := omega) only [lp_X5_findBest_18, hx1, if_false, hbk.1, hbk.2.1, q_lt, q_le, Nat.lt_irrefl, Nat.le_refl, if_true]
    · obtain ⟨s1, s2, s3, -⟩ := okp_step wf hok he
      have hp1 := pos_1 d w k
      have hp2 := pos_2 d w k
      have hd5 := dlr _ s1
      have t1 := s2.1
      have t2 := s2.2
      have h43 := m_best_s (x1 := x1) wf hw9 hok he hbk hms
      have hm1 : 1 ≤ m := by
        rcases Nat.lt_or_ge 0 m with z | z
        · exact z
        · exfalso; apply he; unfold ndp; omega
      obtain ⟨K, μ', e1, e2, e3, e4, e5, e6, e7, e8, e9, e10, e11⟩ := ih (m - (dl (srt d w k) + dr (srt d w k))) (by omega) (k + 1) f (up (up (up (up μ 58 k (nI (srt d w k))) 59 k (nI (pos d w k).1)) 60 k (nI (pos d w k).2)) 43 24 (nI (k + 1))) (by rw [hp1, hp2]; omega) (by omega) s3 (by omega)
        (BKm_fr hbk (fun i _ _ => by rw [up_ot (by omega), up_ne (by omega), up_ne (by omega), up_ne (by omega)]) (fun c _ _ => by rw [up_ne (by omega), up_ne (by omega), up_ne (by omega), up_ne (by omega)])) (up_at _ _ _ _)
        (fun a' b' x y => by
          unfold MS
          rw [up_ne (by omega), up_ne (by omega), up_ne (by omega), up_ne (by omega), up_ne (by omega), up_ne (by omega), up_ne (by omega), up_ne (by omega), up_ne (by omega), up_ne (by omega), up_ne (by omega), up_ne (by omega)]
          exact hms a' b' x y)
      refine ⟨K, μ', ?_, by omega, e3, e4, e5, fun j x y => ?_, e7, fun c x1 x2 x3 x4 => ?_, fun i hi => ?_, fun j x y => ?_, fun j x => ?_⟩
      · rw [← e1, hp1, hp2]
        exact m_fbs hx1 wf hbk h24 (by omega) s1 hb1 hb2 he h43
      · by_cases z : j = k
        · subst z; exact ⟨hok, he⟩
        · exact e6 j (by omega) y
      · rw [e8 c x1 x2 x3 x4, up_ne x1, up_ne x4, up_ne x3, up_ne x2]
      · rw [e9 i hi, up_ot hi, up_ne (by omega), up_ne (by omega), up_ne (by omega)]
      · by_cases z : j = k
        · subst z
          obtain ⟨z1, z2, z3⟩ := e11 j (by omega)
          rw [z1, z2, z3]
          refine ⟨?_, ?_, ?_⟩
          · rw [up_ne (by omega), up_ne (by omega), up_ne (by omega), up_at]
          · rw [up_ne (by omega), up_ne (by omega), up_at]
          · rw [up_ne (by omega), up_at]
        · exact e10 j (by omega) y
      · obtain ⟨z1, z2, z3⟩ := e11 j (by omega)
        rw [z1, z2, z3]
        refine ⟨?_, ?_, ?_⟩
        · rw [up_ne (by omega), up_ne (by omega), up_ne (by omega), up_ot (by omega)]
        · rw [up_ne (by omega), up_ne (by omega), up_ot (by omega), up_ne (by omega)]
        · rw [up_ne (by omega), up_ot (by omega), up_ne (by omega), up_ne (by omega)]
def MB (μ : Mem) (d : BD) : Prop := μ 55 0 = nI (mo (VV d (d 0 4) 0 0).1) ∧ μ 56 0 = nI (mo (VV d (d 0 4) 0 0).2.1) ∧ μ 57 0 = nI (VV d (d 0 4) 0 0).2.2.1 ∧ PA μ 58 59 60 (μ 43 24) d (d 0 4)
theorem m_findBest {d : BD} {μ : Mem} (wf : WFd d) (hbk : BKm μ d) :
    ∃ μ', f_X5_findBest μ = some (orN (VV d (d 0 4) 0 0).1, μ') ∧ (∀ c, c ≠ 43 → c < 55 ∨ 60 < c → μ' c = μ c) ∧ (∀ i, i ≠ 24 → μ' 43 i = μ 43 i) ∧ MB μ' d := by
  have w1 := wf.1
  have w2 := wf.2.1
  have w5 := wf.2.2.2.2.1
  obtain ⟨μ1, e1, e2, e3⟩ := m_findAll (w := d 0 4) wf w5 hbk
  have h9 := hbk.2.2.2.2.1
  have hr := (VV_rng (w := d 0 4) wf (Nat.zero_le (d 0 0)) (Nat.zero_le (d 0 1))).1
  have hbk1 : BKm (up μ1 43 24 (nI 0)) d := BKm_fr hbk (fun i _ _ => by rw [up_ot (by omega), e2 43 (by omega)]) (fun c _ _ => by rw [up_ne (by omega), e2 c (by omega)])
  have h00 := e3 0 0 (Nat.zero_le _) (Nat.zero_le _)
  by_cases hi : (VV d (d 0 4) 0 0).1 < 1000000
  · have hx1 : ¬ orN (VV d (d 0 4) 0 0).1 = -9 := by
      unfold orN
      rw [if_pos hi]
      intro z
      have := q_n9 (a := (VV d (d 0 4) 0 0).1) (by omega)
      rw [this] at z
      exact z
    obtain ⟨K, μ', g1, g2, g3, g4, g5, g6, g7, g8, g9, g10, g11⟩ := m_fb18 (w := d 0 4) hx1 wf rfl (d 0 0 + d 0 1) 0 FU (up μ1 43 24 (nI 0)) (by show (d 0 0 - 0) + (d 0 1 - 0) = _; omega) (by unfold FU; omega) ⟨Nat.zero_le _, Nat.zero_le _, hi⟩ (by omega) hbk1 (up_at _ _ _ _)
      (fun a' b' x y => by
        unfold MS
        rw [up_ne (by omega), up_ne (by omega), up_ne (by omega)]
        exact e3 a' b' x y)
    have g1' : lp_X5_findBest_18 (orN (VV d (d 0 4) 0 0).1) FU (nI 0) (nI 0) (up μ1 43 24 (nI 0)) = some μ' := g1
    refine ⟨μ', ?_, fun c x y => ?_, fun i x => ?_, ?_, ?_, ?_, Or.inl ⟨hi, K, ⟨g4, g5, fun k x => g6 k (Nat.zero_le _) x⟩, g3, g7, fun k x => g10 k (Nat.zero_le _) x⟩⟩
    · simp only [f_X5_findBest, h9, e1, b2_some, lt_eq, l_0, g1', b1_some]
    · rw [g8 c x (by omega) (by omega) (by omega), up_ne x, e2 c (by omega)]
    · rw [g9 i x, up_ot x, e2 43 (by omega)]
    · rw [g8 55 (by omega) (by omega) (by omega) (by omega), up_ne (by omega)]; exact h00.1
    · rw [g8 56 (by omega) (by omega) (by omega) (by omega), up_ne (by omega)]; exact h00.2.1
    · rw [g8 57 (by omega) (by omega) (by omega) (by omega), up_ne (by omega)]; exact h00.2.2
  · have hx1 : orN (VV d (d 0 4) 0 0).1 = -9 := by
      unfold orN
      rw [if_neg hi]
    refine ⟨up μ1 43 24 (nI 0), ?_, fun c x y => ?_, fun i x => ?_, ?_, ?_, ?_, Or.inr ⟨hi, up_at _ _ _ _⟩⟩
    · have hl : lp_X5_findBest_18 (-9) FU (nI 0) (nI 0) (up μ1 43 24 (nI 0)) = some (up μ1 43 24 (nI 0)) := by
        rw [FU_k 1 (by decide), lp_X5_findBest_18, if_pos rfl]
      simp only [f_X5_findBest, h9, e1, b2_some, lt_eq, l_0, hx1, hl, b1_some]
    · rw [up_ne x, e2 c (by omega)]
    · rw [up_ot x, e2 43 (by omega)]
    · rw [up_ne (by omega)]; exact h00.1
    · rw [up_ne (by omega)]; exact h00.2.1
    · rw [up_ne (by omega)]; exact h00.2.2
