theorem q_add (a b : Nat) : nI a + nI b = nI (a + b) := nI_add a b
theorem q_sub {a b : Nat} (h : b ≤ a) : nI a - nI b = nI (a - b) := pk_sub h
theorem q_mul (a b : Nat) : nI a * nI b = nI (a * b) := pk_mul a b
theorem q_eq {a b : Nat} (ha : a < 2147483648) (hb : b < 2147483648) : (nI a = nI b) = (a = b) := propext (nI_eq ha hb)
theorem q_le {a b : Nat} (ha : a < 2147483648) (hb : b < 2147483648) : (nI a ≤ nI b) = (a ≤ b) := propext (nI_leI ha hb)
theorem q_lt {a b : Nat} (ha : a < 2147483648) (hb : b < 2147483648) : (nI a < nI b) = (a < b) := propext (nI_ltI ha hb)
theorem q_cl {a : Nat} (h : a < 2147483648) : (nI a).toNatClampNeg = a := nI_clamp h
theorem q_inb {a n : Nat} (h : a < n) (hn : n ≤ 2147483647) : inb (nI a) n = true := by
  have h1 : ¬ (nI a < 0 ∨ n ≤ (nI a).toNatClampNeg) := nI_in h (by omega)
  simp only [inb, h1, not_false_eq_true, decide_true]
theorem q_ck {R : Type} {a n : Nat} {x : Option R} (h : a < n) (hn : n ≤ 2147483647) : ck (inb (nI a) n) x = x := by
  rw [ck, if_pos (q_inb h hn)]
theorem q_n9 {a : Nat} (h : a < 2147483648) : (nI a = -9) = False := by
  apply eq_false
  intro e
  have h1 : (nI a).toInt = (-9 : Int32).toInt := by rw [e]
  rw [nI_toInt h] at h1
  have h2 : (-9 : Int32).toInt = -9 := by decide
  omega
theorem lt_eq {α R : Type} (e : α) (f : α → Option R) : lt e f = f e := rfl
theorem b1_some {A R : Type} (x : A) (f : A → Option R) : b1 (some x) f = f x := rfl
theorem b2_some {A B R : Type} (x : A) (y : B) (f : A → B → Option R) : b2 (some (x, y)) f = f x y := rfl
theorem b3_some {A B C R : Type} (x : A) (y : B) (z : C) (f : A → B → C → Option R) : b3 (some (x, y, z)) f = f x y z := rfl
theorem b4_some {A B C D R : Type} (x : A) (y : B) (z : C) (w : D) (f : A → B → C → D → Option R) : b4 (some (x, y, z, w)) f = f x y z w := rfl
theorem b5_some {A B C D E R : Type} (x : A) (y : B) (z : C) (w : D) (v : E) (f : A → B → C → D → E → Option R) : b5 (some (x, y, z, w, v)) f = f x y z w v := rfl
theorem s1_inl {A O R : Type} (x : A) (f : A → Option R) (g : O → Option R) : s1 (some (.inl x)) f g = f x := rfl
theorem s1_inr {A O R : Type} (x : O) (f : A → Option R) (g : O → Option R) : s1 (some (.inr x)) f g = g x := rfl
theorem s2_inl {A B O R : Type} (x : A) (y : B) (f : A → B → Option R) (g : O → Option R) : s2 (some (.inl (x, y))) f g = f x y := rfl
theorem s2_inr {A B O R : Type} (x : O) (f : A → B → Option R) (g : O → Option R) : s2 (some (.inr x)) f g = g x := rfl
theorem ck_t {R : Type} (x : Option R) : ck true x = x := rfl
theorem up_ne {μ : Mem} {c i a : Nat} {v : Int32} (h : a ≠ c) : up μ c i v a = μ a := by funext b; simp [up, h]
theorem up_at (μ : Mem) (c i : Nat) (v : Int32) : up μ c i v c i = v := by simp [up]
theorem up_ot {μ : Mem} {c i j : Nat} {v : Int32} (h : j ≠ i) : up μ c i v c j = μ c j := by simp [up, h]
theorem up_if (μ : Mem) (c i a b : Nat) (v : Int32) : up μ c i v a b = if a = c ∧ b = i then v else μ a b := rfl
theorem l_0 : (0 : Int32) = nI 0 := rfl
theorem l_1 : (1 : Int32) = nI 1 := rfl
theorem l_2 : (2 : Int32) = nI 2 := rfl
theorem l_3 : (3 : Int32) = nI 3 := rfl
theorem l_4 : (4 : Int32) = nI 4 := rfl
theorem l_5 : (5 : Int32) = nI 5 := rfl
theorem l_6 : (6 : Int32) = nI 6 := rfl
theorem l_7 : (7 : Int32) = nI 7 := rfl
theorem l_8 : (8 : Int32) = nI 8 := rfl
theorem l_9 : (9 : Int32) = nI 9 := rfl
theorem l_10 : (10 : Int32) = nI 10 := rfl
theorem l_14 : (14 : Int32) = nI 14 := rfl
theorem l_16 : (16 : Int32) = nI 16 := rfl
theorem l_20 : (20 : Int32) = nI 20 := rfl
theorem l_60 : (60 : Int32) = nI 60 := rfl
theorem l_64 : (64 : Int32) = nI 64 := rfl
theorem mabs_sub {a b : Nat} (ha : a < 1073741824) (hb : b < 1073741824) : mabs (nI a - nI b) = nI (if b ≤ a then a - b else b - a) := by
  unfold mabs
  by_cases h : b ≤ a
  · rw [q_sub h, if_pos h, if_pos (nI_pos' (by omega))]
  · rw [if_neg h, if_neg (Int32.not_le.mpr (pk_sneg hb (by omega))), show (0 : Int32) - (nI a - nI b) = nI b - nI a from ?_, q_sub (by omega)]
    rw [show (0 : Int32) = nI a - nI a from (by rw [q_sub (Nat.le_refl _), Nat.sub_self]; rfl)]
    apply Int32.toBitVec_inj.mp
    simp only [Int32.toBitVec_sub]
    rw [BitVec.sub_sub]
    generalize (nI a).toBitVec = x
    generalize (nI b).toBitVec = y
    apply BitVec.eq_of_toNat_eq
    simp only [BitVec.toNat_sub, BitVec.toNat_add]
    omega
/-! the data of the books: d 0 0 lefts, d 0 1 rights, d 0 2 skip, d 0 3 join, d 0 4 band; d 1 kinds, d 2 letters, d 3 anchors; d 4 letters, d 5 anchors of the right ones -/
abbrev BD : Type := Nat → Nat → Nat
def BKc (q : Nat) (μ : Mem) (d : BD) : Prop := μ q 5 = nI (d 0 0) ∧ μ q 6 = nI (d 0 1) ∧ μ q 7 = nI (d 0 2) ∧ μ q 8 = nI (d 0 3) ∧ μ q 9 = nI (d 0 4) ∧ (∀ k, k < d 0 0 → μ (q + 1) k = nI (d 1 k) ∧ μ (q + 2) k = nI (d 2 k) ∧ μ (q + 3) k = nI (d 3 k)) ∧ (∀ k, k < d 0 1 → μ (q + 4) k = nI (d 4 k) ∧ μ (q + 5) k = nI (d 5 k))
def BKm (μ : Mem) (d : BD) : Prop := μ 43 5 = nI (d 0 0) ∧ μ 43 6 = nI (d 0 1) ∧ μ 43 7 = nI (d 0 2) ∧ μ 43 8 = nI (d 0 3) ∧ μ 43 9 = nI (d 0 4) ∧ (∀ k, k < d 0 0 → μ 47 k = nI (d 1 k) ∧ μ 48 k = nI (d 2 k) ∧ μ 49 k = nI (d 3 k)) ∧ (∀ k, k < d 0 1 → μ 50 k = nI (d 4 k) ∧ μ 51 k = nI (d 5 k))
def WFd (d : BD) : Prop := d 0 0 ≤ 7 ∧ d 0 1 ≤ 7 ∧ d 0 2 ≤ 9 ∧ d 0 3 ≤ 9 ∧ d 0 4 ≤ 7 ∧ (∀ k, k < d 0 0 → d 1 k < 3 ∧ d 2 k ≤ 9 ∧ d 3 k ≤ 4) ∧ (∀ k, k < d 0 1 → d 4 k ≤ 9 ∧ d 5 k ≤ 4) ∧ (d 0 0 = 0 ↔ d 0 1 = 0)
def lenD (d : BD) (a : Nat) : Nat := if d 1 a = 0 then d 2 a else if d 1 a = 1 then d 2 a + 1 else 2 * d 2 a
def aset (x : Nat) : Nat := if x = 4 then 0 else 2 ^ x
def adf (a b : Nat) : Nat := if b ≤ a then a - b else b - a
def unl (a b : Nat) : Nat := if a = b then 0 else 3
def cst (d : BD) (s a b : Nat) : Nat := match s with
  | 0 => adf (lenD d a) (d 4 b) + unl (aset (d 3 a)) (aset (d 5 b))
  | 1 => d 0 2 + lenD d a
  | 2 => d 0 2 + d 4 b
  | 3 => adf (lenD d a + lenD d (a + 1)) (d 4 b) + unl (aset (d 3 a) ||| aset (d 3 (a + 1))) (aset (d 5 b)) + d 0 3
  | _ => adf (lenD d a) (d 4 b + d 4 (b + 1)) + unl (aset (d 3 a)) (aset (d 5 b) ||| aset (d 5 (b + 1))) + d 0 3
def dl (s : Nat) : Nat := match s with
  | 2 => 0
  | 3 => 2
  | _ => 1
def dr (s : Nat) : Nat := match s with
  | 1 => 0
  | 4 => 2
  | _ => 1
def avl (d : BD) (s a b : Nat) : Prop := a + dl s ≤ d 0 0 ∧ b + dr s ≤ d 0 1
theorem c_leftLength {q a : Nat} {μ : Mem} {d : BD} (h : BKc q μ d) (w : WFd d) (ha : a < d 0 0) : f_X1_leftLength q (nI a) μ = some (nI (lenD d a), μ) := by
  obtain ⟨w1, w2, w3, w4, w5, w6, w7, w8⟩ := w
  obtain ⟨h1, h2, h3, h4, h5, h6, h7⟩ := h
  obtain ⟨e1, e2, e3⟩ := h6 a ha
  obtain ⟨k1, k2, k3⟩ := w6 a ha
  have ha7 : a < 7 := by omega
  simp (disch := omega) only [f_X1_leftLength, q_ck, lt_eq, q_cl, e1, e2, l_1, l_2, q_eq, q_add, q_mul]
  unfold lenD
  (repeat' split) <;> first | rfl | (exfalso; omega)
theorem m_lengthOf {a : Nat} {μ : Mem} {d : BD} (h : BKm μ d) (w : WFd d) (ha : a < d 0 0) : f_X5_lengthOf (nI a) μ = some (nI (lenD d a), μ) := by
  obtain ⟨w1, w2, w3, w4, w5, w6, w7, w8⟩ := w
  obtain ⟨h1, h2, h3, h4, h5, h6, h7⟩ := h
  obtain ⟨e1, e2, e3⟩ := h6 a ha
  obtain ⟨k1, k2, k3⟩ := w6 a ha
  have ha7 : a < 7 := by omega
  simp (disch := omega) only [f_X5_lengthOf, q_ck, lt_eq, q_cl, e1, e2, l_0, l_1, l_2, q_eq, q_add, q_mul]
  unfold lenD
  split
  · rfl
  · split
    · rfl
    · rfl
