theorem FU_k (k : Nat) (h : k ≤ 1000) : FU = (1000 - k) + k := by unfold FU; omega
theorem i_neg0 (x : Int32) : 0 - x = -x := by
  apply Int32.toBitVec_inj.mp
  simp
theorem i_subsub (x y z : Int32) : x - y - z = x - (y + z) := by
  apply Int32.toBitVec_inj.mp
  simp only [Int32.toBitVec_sub, Int32.toBitVec_add]
  rw [BitVec.sub_sub]
theorem m_abs {R : Type} {a b : Nat} (ha : a < 1073741824) (hb : b < 1073741824) (f : Int32 → Option R) : (if 0 ≤ nI a - nI b then f (nI a - nI b) else f (-(nI a - nI b))) = f (nI (adf a b)) := by
  have h := mabs_sub ha hb
  unfold mabs at h
  rw [i_neg0] at h
  unfold adf
  rw [← h]
  split <;> rfl
theorem m_c148 {s u v x : Nat} {μ : Mem} {d : BD} (h : BKm μ d) (hs : s < 5) (hu : u < 16) (hv : v < 16) : jn_X5_costOf_148 (nI s) (nI u) (nI v) (nI x) μ = some (nI (x + unl u v + if s ≤ 2 then 0 else d 0 3), μ) := by
  obtain ⟨h1, h2, h3, h4, h5, h6, h7⟩ := h
  simp (disch := omega) only [jn_X5_costOf_148, jn_X5_costOf_160, l_0, l_2, l_3, q_eq, q_le, q_add, h4]
  unfold unl
  (repeat' split) <;> rfl
theorem m_costOf {s a b : Nat} {μ : Mem} {d : BD} (h : BKm μ d) (w : WFd d) (hs : s < 5) (hv : avl d s a b) : f_X5_costOf (nI s) (nI a) (nI b) μ = some (nI (cst d s a b), μ) := by
  obtain ⟨hv1, hv2⟩ := hv
  have w' := w
  have h' := h
  obtain ⟨w1, w2, w3, w4, w5, w6, w7, w8⟩ := w
  obtain ⟨h1, h2, h3, h4, h5, h6, h7⟩ := h
  rcases (show s = 0 ∨ s = 1 ∨ s = 2 ∨ s = 3 ∨ s = 4 by omega) with rfl | rfl | rfl | rfl | rfl
  · have ha : a < d 0 0 := hv1
    have hb : b < d 0 1 := hv2
    obtain ⟨e1, e2, e3⟩ := h6 a ha
    obtain ⟨e4, e5⟩ := h7 b hb
    obtain ⟨k1, k2, k3⟩ := w6 a ha
    obtain ⟨k4, k5⟩ := w7 b hb
    have hl := lenD_le w' ha
    have s1 := aset_lt k3
    have s2 := aset_lt k5
    have p1g : ∀ n : Nat, lp_X5_costOf_45 (nI 0) (nI a) (nI b) 0 (n + 2) 0 0 (nI a) μ = some (nI (lenD d a), nI (aset (d 3 a)), μ) := by
      intro n
      simp (disch := omega) only [lp_X5_costOf_45, l_0, l_1, m_leftsOf, b2_some, dl, q_add, q_le, show ¬ a + 1 ≤ a by omega, if_false, m_lengthOf h' w' ha, lt_eq, q_ck, q_cl, e3, m_anchorSet, fa_or, Nat.le_refl, if_true, Nat.zero_add, Nat.zero_or]
    have p1 : lp_X5_costOf_45 (nI 0) (nI a) (nI b) 0 FU 0 0 (nI a) μ = some (nI (lenD d a), nI (aset (d 3 a)), μ) := by rw [FU_k 2 (by decide)]; exact p1g _
    have p2g : ∀ n : Nat, lp_X5_costOf_91 (nI 0) (nI b) (nI (aset (d 3 a))) (n + 2) (nI (lenD d a)) 0 (nI b) μ = some (nI (lenD d a) - nI (d 4 b), nI (aset (d 5 b)), μ) := by
      intro n
      simp (disch := omega) only [lp_X5_costOf_91, l_0, l_1, m_rightsOf, b2_some, dr, q_add, q_le, show ¬ b + 1 ≤ b by omega, if_false, lt_eq, q_ck, q_cl, e4, e5, m_anchorSet, fa_or, Nat.le_refl, if_true, Nat.zero_add, Nat.zero_or]
    have p2 : lp_X5_costOf_91 (nI 0) (nI b) (nI (aset (d 3 a))) FU (nI (lenD d a)) 0 (nI b) μ = some (nI (lenD d a) - nI (d 4 b), nI (aset (d 5 b)), μ) := by rw [FU_k 2 (by decide)]; exact p2g _
    simp (disch := omega) only [f_X5_costOf, l_1, l_2, q_eq, if_false, Nat.reduceEqDiff, p1, p2, b3_some]
    rw [m_abs (by omega) (by omega) (fun x => jn_X5_costOf_148 (nI 0) (nI (aset (d 3 a))) (nI (aset (d 5 b))) x μ), m_c148 h' (by omega) s1 s2]
    rfl
  · have ha : a < d 0 0 := hv1
    have hl := lenD_le w' ha
    simp (disch := omega) only [f_X5_costOf, l_0, l_1, l_2, if_true, m_lengthOf h' w' ha, b2_some, h3, q_add]
    rfl
  · have hb : b < d 0 1 := hv2
    obtain ⟨e4, e5⟩ := h7 b hb
    simp (disch := omega) only [f_X5_costOf, l_0, l_1, l_2, q_eq, if_false, if_true, Nat.reduceEqDiff, q_ck, q_cl, e4, h3, q_add]
    rfl
  · have ha1 : a + 1 < d 0 0 := hv1
    have ha : a < d 0 0 := by omega
    have hb : b < d 0 1 := hv2
    obtain ⟨e1, e2, e3⟩ := h6 a ha
    obtain ⟨f1, f2, f3⟩ := h6 (a + 1) ha1
    obtain ⟨e4, e5⟩ := h7 b hb
    obtain ⟨k1, k2, k3⟩ := w6 a ha
    obtain ⟨j1, j2, j3⟩ := w6 (a + 1) ha1
    obtain ⟨k4, k5⟩ := w7 b hb
    have hl := lenD_le w' ha
    have hl1 := lenD_le w' ha1
    have s1 := aset_lt k3
    have s2 := aset_lt k5
    have s3 := or16 s1 (aset_lt j3)
    have p1g : ∀ n : Nat, lp_X5_costOf_45 (nI 3) (nI a) (nI b) 0 (n + 3) 0 0 (nI a) μ = some (nI (lenD d a + lenD d (a + 1)), nI (aset (d 3 a) ||| aset (d 3 (a + 1))), μ) := by
      intro n
      simp (disch := omega) only [lp_X5_costOf_45, l_0, l_1, m_leftsOf, b2_some, dl, q_add, q_le, show ¬ a + 2 ≤ a by omega, show ¬ a + 2 ≤ a + 1 by omega, show a + 2 ≤ a + 1 + 1 by omega, if_false, m_lengthOf h' w' ha, m_lengthOf h' w' ha1, lt_eq, q_ck, q_cl, e3, f3, m_anchorSet, fa_or, Nat.le_refl, if_true, Nat.zero_add, Nat.zero_or]
    have p1 : lp_X5_costOf_45 (nI 3) (nI a) (nI b) 0 FU 0 0 (nI a) μ = some (nI (lenD d a + lenD d (a + 1)), nI (aset (d 3 a) ||| aset (d 3 (a + 1))), μ) := by rw [FU_k 3 (by decide)]; exact p1g _
    have p2g : ∀ n : Nat, lp_X5_costOf_91 (nI 3) (nI b) (nI (aset (d 3 a) ||| aset (d 3 (a + 1)))) (n + 2) (nI (lenD d a + lenD d (a + 1))) 0 (nI b) μ = some (nI (lenD d a + lenD d (a + 1)) - nI (d 4 b), nI (aset (d 5 b)), μ) := by
      intro n
      simp (disch := omega) only [lp_X5_costOf_91, l_0, l_1, m_rightsOf, b2_some, dr, q_add, q_le, show ¬ b + 1 ≤ b by omega, if_false, lt_eq, q_ck, q_cl, e4, e5, m_anchorSet, fa_or, Nat.le_refl, if_true, Nat.zero_add, Nat.zero_or]
    have p2 : lp_X5_costOf_91 (nI 3) (nI b) (nI (aset (d 3 a) ||| aset (d 3 (a + 1)))) FU (nI (lenD d a + lenD d (a + 1))) 0 (nI b) μ = some (nI (lenD d a + lenD d (a + 1)) - nI (d 4 b), nI (aset (d 5 b)), μ) := by rw [FU_k 2 (by decide)]; exact p2g _
    simp (disch := omega) only [f_X5_costOf, l_1, l_2, q_eq, if_false, Nat.reduceEqDiff, p1, p2, b3_some]
    rw [m_abs (by omega) (by omega) (fun x => jn_X5_costOf_148 (nI 3) (nI (aset (d 3 a) ||| aset (d 3 (a + 1)))) (nI (aset (d 5 b))) x μ), m_c148 h' (by omega) s3 s2]
    rfl
  · have ha : a < d 0 0 := hv1
    have hb1 : b + 1 < d 0 1 := hv2
    have hb : b < d 0 1 := by omega
    obtain ⟨e1, e2, e3⟩ := h6 a ha
    obtain ⟨e4, e5⟩ := h7 b hb
    obtain ⟨f4, f5⟩ := h7 (b + 1) hb1
    obtain ⟨k1, k2, k3⟩ := w6 a ha
    obtain ⟨k4, k5⟩ := w7 b hb
    obtain ⟨j4, j5⟩ := w7 (b + 1) hb1
    have hl := lenD_le w' ha
    have s1 := aset_lt k3
    have s2 := aset_lt k5
    have s3 := or16 s2 (aset_lt j5)
    have p1g : ∀ n : Nat, lp_X5_costOf_45 (nI 4) (nI a) (nI b) 0 (n + 2) 0 0 (nI a) μ = some (nI (lenD d a), nI (aset (d 3 a)), μ) := by
      intro n
      simp (disch := omega) only [lp_X5_costOf_45, l_0, l_1, m_leftsOf, b2_some, dl, q_add, q_le, show ¬ a + 1 ≤ a by omega, if_false, m_lengthOf h' w' ha, lt_eq, q_ck, q_cl, e3, m_anchorSet, fa_or, Nat.le_refl, if_true, Nat.zero_add, Nat.zero_or]
    have p1 : lp_X5_costOf_45 (nI 4) (nI a) (nI b) 0 FU 0 0 (nI a) μ = some (nI (lenD d a), nI (aset (d 3 a)), μ) := by rw [FU_k 2 (by decide)]; exact p1g _
    have p2g : ∀ n : Nat, lp_X5_costOf_91 (nI 4) (nI b) (nI (aset (d 3 a))) (n + 3) (nI (lenD d a)) 0 (nI b) μ = some (nI (lenD d a) - nI (d 4 b + d 4 (b + 1)), nI (aset (d 5 b) ||| aset (d 5 (b + 1))), μ) := by
      intro n
      simp (disch := omega) only [lp_X5_costOf_91, l_0, l_1, m_rightsOf, b2_some, dr, q_add, q_le, show ¬ b + 2 ≤ b by omega, show ¬ b + 2 ≤ b + 1 by omega, show b + 2 ≤ b + 1 + 1 by omega, if_false, lt_eq, q_ck, q_cl, e4, e5, f4, f5, m_anchorSet, fa_or, Nat.le_refl, if_true, Nat.zero_add, Nat.zero_or, i_subsub]
    have p2 : lp_X5_costOf_91 (nI 4) (nI b) (nI (aset (d 3 a))) FU (nI (lenD d a)) 0 (nI b) μ = some (nI (lenD d a) - nI (d 4 b + d 4 (b + 1)), nI (aset (d 5 b) ||| aset (d 5 (b + 1))), μ) := by rw [FU_k 3 (by decide)]; exact p2g _
    simp (disch := omega) only [f_X5_costOf, l_1, l_2, q_eq, if_false, Nat.reduceEqDiff, p1, p2, b3_some]
    rw [m_abs (by omega) (by omega) (fun x => jn_X5_costOf_148 (nI 4) (nI (aset (d 3 a))) (nI (aset (d 5 b) ||| aset (d 5 (b + 1)))) x μ), m_c148 h' (by omega) s1 s3]
    rfl
