theorem fa_lt (a b : Int32) : a < b ↔ a.toInt < b.toInt := Int32.lt_iff_toInt_lt
theorem fa_le (a b : Int32) : a ≤ b ↔ a.toInt ≤ b.toInt := Int32.le_iff_toInt_le
theorem fa_eq (a b : Int32) : a = b ↔ a.toInt = b.toInt := Int32.toInt_inj.symm
theorem fb_rng (x : Int32) : -2147483648 ≤ x.toInt ∧ x.toInt < 2147483648 := by
  have h1 := Int32.le_toInt x
  have h2 := Int32.toInt_lt x
  omega
theorem fb_bmod {z : Int} (h1 : -2147483648 ≤ z) (h2 : z < 2147483648) : z.bmod (2 ^ 32) = z := by
  rw [Int.bmod_eq_of_le (by omega) (by omega)]
theorem fb_addI {x y : Int32} (h1 : -2147483648 ≤ x.toInt + y.toInt) (h2 : x.toInt + y.toInt < 2147483648) : (x + y).toInt = x.toInt + y.toInt := by
  rw [Int32.toInt_add, fb_bmod h1 h2]
theorem fb_subI {x y : Int32} (h1 : -2147483648 ≤ x.toInt - y.toInt) (h2 : x.toInt - y.toInt < 2147483648) : (x - y).toInt = x.toInt - y.toInt := by
  rw [Int32.toInt_sub, fb_bmod h1 h2]
theorem fa_or (a b : Nat) : nI a ||| nI b = nI (a ||| b) := by
  apply Int32.toBitVec_inj.1
  show BitVec.ofNat 32 a ||| BitVec.ofNat 32 b = BitVec.ofNat 32 (a ||| b)
  apply BitVec.eq_of_getLsbD_eq
  intro i hi
  simp [hi]
theorem aset_v {x : Nat} (h : x ≤ 4) : (if nI x = (4 : Int32) then (0 : Int32) else (1 : Int32) <<< (nI x &&& 31)) = nI (aset x) := by
  rcases (show x = 0 ∨ x = 1 ∨ x = 2 ∨ x = 3 ∨ x = 4 by omega) with rfl | rfl | rfl | rfl | rfl <;> decide
theorem aset_lt {x : Nat} (h : x ≤ 4) : aset x < 16 := by
  rcases (show x = 0 ∨ x = 1 ∨ x = 2 ∨ x = 3 ∨ x = 4 by omega) with rfl | rfl | rfl | rfl | rfl <;> decide
theorem or16 {a b : Nat} (ha : a < 16) (hb : b < 16) : a ||| b < 16 := Nat.or_lt_two_pow (n := 4) ha hb
theorem c_anchorSet {x : Nat} {μ : Mem} (h : x ≤ 4) : f_X1_anchorSet (nI x) μ = some (nI (aset x), μ) := by
  rw [f_X1_anchorSet, ← aset_v h]
  split <;> rfl
theorem m_anchorSet {x : Nat} {μ : Mem} (h : x ≤ 4) : f_X5_anchorSet (nI x) μ = some (nI (aset x), μ) := by
  rw [f_X5_anchorSet, ← aset_v h]
  split <;> rfl
theorem lenD_le {d : BD} {a : Nat} (w : WFd d) (ha : a < d 0 0) : lenD d a ≤ 18 := by
  obtain ⟨w1, w2, w3, w4, w5, w6, w7, w8⟩ := w
  obtain ⟨k1, k2, k3⟩ := w6 a ha
  unfold lenD
  (repeat' split) <;> omega
theorem c_hasLeft_y {q j n : Nat} {μ : Mem} (h : μ q 5 = nI n) (hn : n < 2147483648) (hj : j < n) : f_X1_hasLeft q (nI j) μ = some (nI 1, μ) := by
  rw [f_X1_hasLeft, h, if_neg (nI_pos (by omega)), if_neg (nI_ge hj (by omega))]; rfl
theorem c_hasLeft_n {q n : Nat} {a : Int32} {μ : Mem} (h : μ q 5 = nI n) (hj : a < 0 ∨ nI n ≤ a) : f_X1_hasLeft q a μ = some (nI 0, μ) := by
  rw [f_X1_hasLeft, h]
  rcases hj with hj | hj
  · rw [if_pos hj]; rfl
  · by_cases h0 : a < 0
    · rw [if_pos h0]; rfl
    · rw [if_neg h0, if_pos hj]; rfl
theorem c_hasRight_y {q j n : Nat} {μ : Mem} (h : μ q 6 = nI n) (hn : n < 2147483648) (hj : j < n) : f_X1_hasRight q (nI j) μ = some (nI 1, μ) := by
  rw [f_X1_hasRight, h, if_neg (nI_pos (by omega)), if_neg (nI_ge hj (by omega))]; rfl
theorem c_hasRight_n {q n : Nat} {a : Int32} {μ : Mem} (h : μ q 6 = nI n) (hj : a < 0 ∨ nI n ≤ a) : f_X1_hasRight q a μ = some (nI 0, μ) := by
  rw [f_X1_hasRight, h]
  rcases hj with hj | hj
  · rw [if_pos hj]; rfl
  · by_cases h0 : a < 0
    · rw [if_pos h0]; rfl
    · rw [if_neg h0, if_pos hj]; rfl
theorem m_isLeft_y {j n : Nat} {μ : Mem} (h : μ 43 5 = nI n) (hn : n < 2147483648) (hj : j < n) : f_X5_isLeft (nI j) μ = some (nI 1, μ) := by
  rw [f_X5_isLeft, h, if_neg (nI_pos (by omega)), if_neg (nI_ge hj (by omega))]; rfl
theorem m_isLeft_n {n : Nat} {a : Int32} {μ : Mem} (h : μ 43 5 = nI n) (hj : a < 0 ∨ nI n ≤ a) : f_X5_isLeft a μ = some (nI 0, μ) := by
  rw [f_X5_isLeft, h]
  rcases hj with hj | hj
  · rw [if_pos hj]; rfl
  · by_cases h0 : a < 0
    · rw [if_pos h0]; rfl
    · rw [if_neg h0, if_pos hj]; rfl
theorem m_isRight_y {j n : Nat} {μ : Mem} (h : μ 43 6 = nI n) (hn : n < 2147483648) (hj : j < n) : f_X5_isRight (nI j) μ = some (nI 1, μ) := by
  rw [f_X5_isRight, h, if_neg (nI_pos (by omega)), if_neg (nI_ge hj (by omega))]; rfl
theorem m_isRight_n {n : Nat} {a : Int32} {μ : Mem} (h : μ 43 6 = nI n) (hj : a < 0 ∨ nI n ≤ a) : f_X5_isRight a μ = some (nI 0, μ) := by
  rw [f_X5_isRight, h]
  rcases hj with hj | hj
  · rw [if_pos hj]; rfl
  · by_cases h0 : a < 0
    · rw [if_pos h0]; rfl
    · rw [if_neg h0, if_pos hj]; rfl
theorem nz {n : Nat} (h0 : 0 < n) (h : n < 2147483648) : ¬ nI n = nI 0 := nI_ne0 h0 h
theorem stv0 {s : Nat} (h : s < 5) : stv 0 s = nI (dl s) := by
  rcases (show s = 0 ∨ s = 1 ∨ s = 2 ∨ s = 3 ∨ s = 4 by omega) with rfl | rfl | rfl | rfl | rfl <;> rfl
theorem stv1 {s : Nat} (h : s < 5) : stv 1 s = nI (dr s) := by
  rcases (show s = 0 ∨ s = 1 ∨ s = 2 ∨ s = 3 ∨ s = 4 by omega) with rfl | rfl | rfl | rfl | rfl <;> rfl
theorem stv2 {s : Nat} (h : s < 5) : stv 2 s = nI (8 * dl s + dr s) := by
  rcases (show s = 0 ∨ s = 1 ∨ s = 2 ∨ s = 3 ∨ s = 4 by omega) with rfl | rfl | rfl | rfl | rfl <;> rfl
theorem m_leftsOf {s : Nat} {μ : Mem} (h : s < 5) : f_X5_leftsOf (nI s) μ = some (nI (dl s), μ) := by
  rcases (show s = 0 ∨ s = 1 ∨ s = 2 ∨ s = 3 ∨ s = 4 by omega) with rfl | rfl | rfl | rfl | rfl <;> rfl
theorem m_rightsOf {s : Nat} {μ : Mem} (h : s < 5) : f_X5_rightsOf (nI s) μ = some (nI (dr s), μ) := by
  rcases (show s = 0 ∨ s = 1 ∨ s = 2 ∨ s = 3 ∨ s = 4 by omega) with rfl | rfl | rfl | rfl | rfl <;> rfl
theorem dl_le (s : Nat) : dl s ≤ 2 := by unfold dl; split <;> omega
theorem dr_le (s : Nat) : dr s ≤ 2 := by unfold dr; split <;> omega
def bI (p : Prop) [Decidable p] : Int32 := if p then nI 1 else nI 0
theorem c_hp74 {x y : Nat} {μ : Mem} (hx : x < 2) (hy : y < 2) : jn_X1_hasPair_74 (nI x) (nI y) μ = some (nI (x * y), μ) := by
  rcases (show x = 0 ∨ x = 1 by omega) with rfl | rfl <;> rcases (show y = 0 ∨ y = 1 by omega) with rfl | rfl <;> rfl
theorem c_hp43 {q b n x k : Nat} {μ : Mem} (h : μ q 6 = nI n) (hn : n ≤ 7) (hb : b ≤ n) (hx : x < 2) (hk : k ≤ 2) : jn_X1_hasPair_43 q (nI b) (nI k) (nI x) μ = some (nI (x * (if b + k ≤ n then 1 else 0)), μ) := by
  unfold jn_X1_hasPair_43 jn_X1_hasPair_69 jn_X1_hasPair_73
  rw [l_0, l_1]
  by_cases k0 : k = 0
  · subst k0
    rw [if_pos rfl, c_hp74 hx (by omega), if_pos (by omega)]
  · rw [if_neg (nz (by omega) (by omega))]
    by_cases hbn : b < n
    · rw [c_hasRight_y h (by omega) hbn, b2_some, if_neg (nz (by omega) (by omega)), h, q_sub (by omega)]
      by_cases z : b + k ≤ n
      · rw [if_neg (nI_nlt (by omega) (by omega)), c_hp74 hx (by omega), if_pos z]
      · rw [if_pos (nI_lt (by omega) (by omega)), c_hp74 hx (by omega), if_neg z]
    · rw [c_hasRight_n h (Or.inr (nI_le (by omega) (by omega))), b2_some, if_pos rfl, c_hp74 hx (by omega), if_neg (by omega)]
theorem c_hasPair {q s a b : Nat} {μ : Mem} {d : BD} (h : BKc q μ d) (w : WFd d) (hs : s < 5) (ha : a ≤ d 0 0) (hb : b ≤ d 0 1) : f_X1_hasPair q (nI s) (nI a) (nI b) μ = some (nI (if a + dl s ≤ d 0 0 ∧ b + dr s ≤ d 0 1 then 1 else 0), μ) := by
  obtain ⟨w1, w2, w3, w4, w5, w6, w7, w8⟩ := w
  obtain ⟨h1, h2, h3, h4, h5, h6, h7⟩ := h
  have e1 := dl_le s
  have e2 := dr_le s
  simp (disch := omega) only [f_X1_hasPair, q_ck, lt_eq, q_cl, stv0, stv1]
  unfold jn_X1_hasPair_38 jn_X1_hasPair_42
  rw [l_0, l_1]
  by_cases k0 : dl s = 0
  · rw [k0, if_pos rfl, c_hp43 h2 w2 hb (by omega) e2]
    simp only [Nat.one_mul, show a + 0 ≤ d 0 0 by omega, true_and]
  · rw [if_neg (nz (by omega) (by omega))]
    by_cases hal : a < d 0 0
    · rw [c_hasLeft_y h1 (by omega) hal, b2_some, if_neg (nz (by omega) (by omega)), h1, q_sub (by omega)]
      by_cases z : a + dl s ≤ d 0 0
      · rw [if_neg (nI_nlt (by omega) (by omega)), c_hp43 h2 w2 hb (by omega) e2]
        simp only [Nat.one_mul, z, true_and]
      · rw [if_pos (nI_lt (by omega) (by omega)), c_hp43 h2 w2 hb (by omega) e2]
        simp only [Nat.zero_mul, z, false_and, if_false]
    · rw [c_hasLeft_n h1 (Or.inr (nI_le (by omega) (by omega))), b2_some, if_pos rfl, c_hp43 h2 w2 hb (by omega) e2]
      simp only [Nat.zero_mul, show ¬ a + dl s ≤ d 0 0 by omega, false_and, if_false]
theorem c_pairCost {q s a b : Nat} {μ : Mem} {d : BD} (h : BKc q μ d) (w : WFd d) (hs : s < 5) (hv : avl d s a b) : f_X1_pairCost q (nI s) (nI a) (nI b) μ = some (nI (cst d s a b), μ) := by
  obtain ⟨hv1, hv2⟩ := hv
  have w' := w
  have h' := h
  obtain ⟨w1, w2, w3, w4, w5, w6, w7, w8⟩ := w
  obtain ⟨h1, h2, h3, h4, h5, h6, h7⟩ := h
  rcases (show s = 0 ∨ s = 1 ∨ s = 2 ∨ s = 3 ∨ s = 4 by omega) with rfl | rfl | rfl | rfl | rfl
  · have ha : a < d 0 0 := hv1
    have hb : b < d 0 1 := hv2
    obtain ⟨e1, e2, e3⟩ := h6 a ha
    obtain ⟨e4, e5⟩ := h7 b hb
    obtain ⟨k1, k2, k3⟩ := w6 a ha
    obtain ⟨k4, k5⟩ := w7 b hb
    have hl := lenD_le w' ha
    have s1 := aset_lt k3
    have s2 := aset_lt k5
    simp (disch := omega) only [f_X1_pairCost, l_0, l_1, l_2, l_3, l_4, q_eq, if_false, if_true, Nat.reduceEqDiff, c_leftLength h' w' ha, b2_some, q_ck, q_cl, e3, e4, e5, c_anchorSet, lt_eq, jn_X1_pairCost_112, jn_X1_pairCost_152, jn_X1_pairCost_164, mabs_sub, q_add]
    simp only [cst, adf, unl]
    (repeat' split) <;> rfl
  · have ha : a < d 0 0 := hv1
    have hl := lenD_le w' ha
    simp (disch := omega) only [f_X1_pairCost, l_0, l_1, l_2, l_3, l_4, if_true, c_leftLength h' w' ha, b2_some, h3, q_add]
    rfl
  · have hb : b < d 0 1 := hv2
    obtain ⟨e4, e5⟩ := h7 b hb
    simp (disch := omega) only [f_X1_pairCost, l_0, l_1, l_2, l_3, l_4, q_eq, if_false, if_true, Nat.reduceEqDiff, q_ck, q_cl, e4, h3, q_add]
    rfl
  · have ha : a < d 0 0 := by have : a + 2 ≤ d 0 0 := hv1; omega
    have ha1 : a + 1 < d 0 0 := hv1
    have hb : b < d 0 1 := hv2
    obtain ⟨e1, e2, e3⟩ := h6 a ha
    obtain ⟨f1, f2, f3⟩ := h6 (a + 1) ha1
    obtain ⟨e4, e5⟩ := h7 b hb
    obtain ⟨k1, k2, k3⟩ := w6 a ha
    obtain ⟨j1, j2, j3⟩ := w6 (a + 1) ha1
    obtain ⟨k4, k5⟩ := w7 b hb
    have hl := lenD_le w' ha
    have hl1 := lenD_le w' ha1
    have s1 := aset_lt k3
    have s2 := aset_lt k5
    have s3 := or16 s1 (aset_lt j3)
    simp (disch := omega) only [f_X1_pairCost, l_0, l_1, l_2, l_3, l_4, q_eq, if_false, if_true, Nat.reduceEqDiff, c_leftLength h' w' ha, c_leftLength h' w' ha1, b2_some, q_ck, q_cl, e3, e4, e5, f3, c_anchorSet, lt_eq, jn_X1_pairCost_112, jn_X1_pairCost_152, jn_X1_pairCost_164, mabs_sub, q_add, fa_or, h4]
    simp only [cst, adf, unl]
    (repeat' split) <;> rfl
  · have ha : a < d 0 0 := hv1
    have hb : b < d 0 1 := by have : b + 2 ≤ d 0 1 := hv2; omega
    have hb1 : b + 1 < d 0 1 := hv2
    obtain ⟨e1, e2, e3⟩ := h6 a ha
    obtain ⟨e4, e5⟩ := h7 b hb
    obtain ⟨f4, f5⟩ := h7 (b + 1) hb1
    obtain ⟨k1, k2, k3⟩ := w6 a ha
    obtain ⟨k4, k5⟩ := w7 b hb
    obtain ⟨j4, j5⟩ := w7 (b + 1) hb1
    have hl := lenD_le w' ha
    have s1 := aset_lt k3
    have s2 := aset_lt k5
    have s3 := or16 s2 (aset_lt j5)
    simp (disch := omega) only [f_X1_pairCost, l_0, l_1, l_2, l_3, l_4, q_eq, if_false, if_true, Nat.reduceEqDiff, c_leftLength h' w' ha, b2_some, q_ck, q_cl, e3, e4, e5, f4, f5, c_anchorSet, lt_eq, jn_X1_pairCost_112, jn_X1_pairCost_152, jn_X1_pairCost_164, mabs_sub, q_add, fa_or, h4]
    simp only [cst, adf, unl]
    (repeat' split) <;> rfl
theorem cst_le {s a b : Nat} {d : BD} (w : WFd d) (hs : s < 5) (hv : avl d s a b) : cst d s a b ≤ 48 := by
  obtain ⟨hv1, hv2⟩ := hv
  have w' := w
  obtain ⟨w1, w2, w3, w4, w5, w6, w7, w8⟩ := w
  rcases (show s = 0 ∨ s = 1 ∨ s = 2 ∨ s = 3 ∨ s = 4 by omega) with rfl | rfl | rfl | rfl | rfl
  · have ha : a < d 0 0 := hv1
    have hb : b < d 0 1 := hv2
    have := lenD_le w' ha
    have := w7 b hb
    simp only [cst, adf, unl]
    (repeat' split) <;> omega
  · have ha : a < d 0 0 := hv1
    have := lenD_le w' ha
    simp only [cst]
    omega
  · have hb : b < d 0 1 := hv2
    have := w7 b hb
    simp only [cst]
    omega
  · have ha : a < d 0 0 := by have : a + 2 ≤ d 0 0 := hv1; omega
    have ha1 : a + 1 < d 0 0 := hv1
    have hb : b < d 0 1 := hv2
    have := lenD_le w' ha
    have := lenD_le w' ha1
    have := w7 b hb
    simp only [cst, adf, unl]
    (repeat' split) <;> omega
  · have ha : a < d 0 0 := hv1
    have hb : b < d 0 1 := by have : b + 2 ≤ d 0 1 := hv2; omega
    have hb1 : b + 1 < d 0 1 := hv2
    have := lenD_le w' ha
    have := w7 b hb
    have := w7 (b + 1) hb1
    simp only [cst, adf, unl]
    (repeat' split) <;> omega
