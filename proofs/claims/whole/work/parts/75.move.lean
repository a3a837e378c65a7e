def sg (b n y p : Nat) : Nat := if y ≤ p ∧ p < y + n then b + p - y else if p < y then (if p < b then p else p + n) else (if p - n < b then p - n else p)
theorem sg_lt {b n y p R : Nat} (h1 : b + n ≤ R) (h2 : y + n ≤ R) (hp : p < R) : sg b n y p < R := by
  unfold sg
  (repeat' split) <;> omega
def dM (d : BD) (b n t : Nat) : BD := fun a c => if a = 4 ∨ a = 5 then d a (sg b n t c) else d a c
theorem dM_o {d : BD} {b n t a c : Nat} (h : a ≠ 4 ∧ a ≠ 5) : dM d b n t a c = d a c := if_neg (by omega)
theorem dM_4 (d : BD) (b n t c : Nat) : dM d b n t 4 c = d 4 (sg b n t c) := if_pos (by omega)
theorem dM_5 (d : BD) (b n t c : Nat) : dM d b n t 5 c = d 5 (sg b n t c) := if_pos (by omega)
theorem WFd_M {d : BD} {b n t : Nat} (w : WFd d) (h1 : b + n ≤ d 0 1) (h2 : t + n ≤ d 0 1) : WFd (dM d b n t) := by
  obtain ⟨w1, w2, w3, w4, w5, w6, w7, w8⟩ := w
  unfold WFd
  simp (disch := omega) only [dM_o, dM_4, dM_5]
  exact ⟨w1, w2, w3, w4, w5, w6, fun k hk => w7 _ (sg_lt h1 h2 hk), w8⟩
theorem c_tm3 {d : BD} {b n t : Nat} (w : WFd d) (h1 : b + n ≤ d 0 1) (h2 : t + n ≤ d 0 1) : ∀ (m k f : Nat) (μ : Mem), k + m = d 0 1 → m < f → μ 2 6 = nI (d 0 1) → BKc 8 μ d → ∃ μ', lp_X1_takeMoved_3 2 8 (nI b) (nI n) (nI t) f (nI k) μ = some μ' ∧ (∀ c, c ≠ 6 → c ≠ 7 → μ' c = μ c) ∧ (∀ p, p < d 0 1 → μ' 6 p = (if k ≤ p then nI (d 4 (sg b n t p)) else μ 6 p) ∧ μ' 7 p = (if k ≤ p then nI (d 5 (sg b n t p)) else μ 7 p)) := by
  have w2 := w.2.1
  intro m
  induction m with
  | zero =>
    intro k f μ hk hf h6 hb
    obtain ⟨f, rfl⟩ : ∃ m, f = m + 1 := ⟨f - 1, by omega⟩
    refine ⟨μ, by rw [lp_X1_takeMoved_3, h6, show k = d 0 1 by omega, if_pos (Int32.le_refl _)], fun _ _ _ => rfl, fun p hp => ⟨by rw [if_neg (by omega)], by rw [if_neg (by omega)]⟩⟩
  | succ m ih =>
    intro k f μ hk hf h6 hb
    obtain ⟨f, rfl⟩ : ∃ m, f = m + 1 := ⟨f - 1, by omega⟩
    have sl := sg_lt (p := k) h1 h2 (by omega)
    obtain ⟨s4, s5⟩ := hb.2.2.2.2.2.2 (sg b n t k) sl
    simp only [Nat.reduceAdd] at s4 s5
    obtain ⟨μ', e, f1, f2⟩ := ih (k + 1) f (up (up μ 6 k (nI (d 4 (sg b n t k)))) 7 k (nI (d 5 (sg b n t k)))) (by omega) (by omega) (by rw [up_ne (by omega), up_ne (by omega)]; exact h6) (BKc_fr hb (by rw [up_ne (by omega), up_ne (by omega)]) (by rw [up_ne (by omega), up_ne (by omega)]) (by rw [up_ne (by omega), up_ne (by omega)]) (by rw [up_ne (by omega), up_ne (by omega)]) (by rw [up_ne (by omega), up_ne (by omega)]) (by rw [up_ne (by omega), up_ne (by omega)]))
    have J : jn_X1_takeMoved_75 (lp_X1_takeMoved_3 2 8 (nI b) (nI n) (nI t) f) 2 8 (nI b) (nI n) (nI t) (nI k) (nI (sg b n t k)) μ = some μ' := by
      simp (disch := omega) only [jn_X1_takeMoved_75, q_ck, q_cl, lt_eq, Nat.reduceAdd, up_ne, s4, s5, l_1, q_add]
      exact e
    refine ⟨μ', ?_, fun c c1 c2 => by rw [f1 c c1 c2, up_ne c2, up_ne c1], fun p hp => ?_⟩
    · rw [lp_X1_takeMoved_3, h6, if_neg (show ¬ nI (d 0 1) ≤ nI k by rw [q_le (by omega) (by omega)]; omega)]
      have J40 : ¬ (t ≤ k ∧ k < t + n) → jn_X1_takeMoved_40 (lp_X1_takeMoved_3 2 8 (nI b) (nI n) (nI t) f) 2 8 (nI b) (nI n) (nI t) (nI k) μ = some μ' := by
        intro z
        simp (disch := omega) only [jn_X1_takeMoved_40, jn_X1_takeMoved_56, jn_X1_takeMoved_73, q_le]
        by_cases c1 : t ≤ k
        · rw [if_pos c1]
          simp (disch := omega) only [q_sub, q_le, q_add]
          by_cases c2 : b ≤ k - n
          · rw [if_pos c2, ← J, show sg b n t k = k - n + n by unfold sg; rw [if_neg z, if_neg (by omega), if_neg (by omega)]; omega]
          · rw [if_neg c2, ← J, show sg b n t k = k - n by unfold sg; rw [if_neg z, if_neg (by omega), if_pos (by omega)]]
        · rw [if_neg c1]
          simp (disch := omega) only [q_le, q_add]
          by_cases c2 : b ≤ k
          · rw [if_pos c2, ← J, show sg b n t k = k + n by unfold sg; rw [if_neg z, if_pos (by omega), if_neg (by omega)]]
          · rw [if_neg c2, ← J, show sg b n t k = k by unfold sg; rw [if_neg z, if_pos (by omega), if_pos (by omega)]]
      simp (disch := omega) only [q_lt, q_add, q_le]
      by_cases c1 : k < t
      · rw [if_pos c1, J40 (by omega)]
      · rw [if_neg c1]
        by_cases c2 : t + n ≤ k
        · rw [if_pos c2, J40 (by omega)]
        · rw [if_neg c2, lt_eq, q_sub (by omega), show b + k - t = sg b n t k by unfold sg; rw [if_pos (by omega)], J]
    · obtain ⟨g1, g2⟩ := f2 p hp
      by_cases c : p = k
      · subst c
        rw [if_neg (by omega)] at g1 g2
        rw [up_ne (by omega), up_at] at g1
        rw [up_at] at g2
        rw [if_pos (Nat.le_refl _), if_pos (Nat.le_refl _)]
        exact ⟨g1, g2⟩
      · rw [up_ne (show 6 ≠ 7 by omega), up_ot c] at g1
        rw [up_ot c, up_ne (show 7 ≠ 6 by omega)] at g2
        by_cases c2 : k ≤ p
        · rw [if_pos (by omega)] at g1 g2
          rw [if_pos c2, if_pos c2]
          exact ⟨g1, g2⟩
        · rw [if_neg (by omega)] at g1 g2
          rw [if_neg c2, if_neg c2]
          exact ⟨g1, g2⟩
def PS (μ : Mem) (d : BD) (P : Nat → Nat) : Prop := ∀ q, q < d 0 1 → μ 50 q = nI (d 4 (P q)) ∧ μ 51 q = nI (d 5 (P q))
theorem m_gu {d : BD} {p : Nat} {P : Nat → Nat} {μ : Mem} (w : WFd d) (h1 : 1 ≤ p) (h2 : p < d 0 1) (h : PS μ d P) : ∃ μ', f_X5_goesUp (nI p) μ = some μ' ∧ (∀ c, c ≠ 50 → c ≠ 51 → μ' c = μ c) ∧ PS μ' d (fun q => if q = p then P (p - 1) else if q + 1 = p then P p else P q) := by
  have w2 := w.2.1
  obtain ⟨a1, a2⟩ := h p h2
  obtain ⟨b1, b2⟩ := h (p - 1) (by omega)
  refine ⟨up (up (up (up μ 50 p (nI (d 4 (P (p - 1))))) 51 p (nI (d 5 (P (p - 1))))) 50 (p - 1) (nI (d 4 (P p)))) 51 (p - 1) (nI (d 5 (P p))), ?_, fun c c1 c2 => by rw [up_ne c2, up_ne c1, up_ne c2, up_ne c1], fun q hq => ?_⟩
  · simp (disch := omega) only [f_X5_goesUp, l_1, q_sub, q_ck, q_cl, lt_eq, a1, a2, b1, up_ne, b2]
  · obtain ⟨g1, g2⟩ := h q hq
    simp only [up_if]
    by_cases c1 : q = p
    · subst c1
      simp only [if_true]
      rw [if_neg (by omega), if_neg (by omega), if_neg (by omega)]
      simp
      omega
    · by_cases c2 : q + 1 = p
      · have : q = p - 1 := by omega
        subst this
        simp [c1, c2]
      · rw [if_neg c1, if_neg c2, if_neg (by omega), if_neg (by omega), if_neg (by omega), if_neg (by omega), if_neg (by omega), if_neg (by omega), if_neg (by omega), if_neg (by omega)]
        exact ⟨g1, g2⟩
def Uu (P : Nat → Nat) (y s q : Nat) : Nat := if q + 1 = y + s then P (y - 1) else if y ≤ q + 1 ∧ q + 1 < y + s then P (q + 1) else P q
def Du (P : Nat → Nat) (y n s q : Nat) : Nat := if q + s = y + n then P (y + n) else if y + n < q + s ∧ q ≤ y + n then P (q - 1) else P q
theorem m_61 {d : BD} {n y : Nat} {P : Nat → Nat} {x1 x3 : Int32} (w : WFd d) (hy : 1 ≤ y) (h : y + n ≤ d 0 1) : ∀ (m s f : Nat) (μ : Mem), s + m = n → m < f → PS μ d (Uu P y s) → ∃ μ', lp_X5_move_61 x1 (nI n) x3 (nI y) f (nI s) μ = some μ' ∧ (∀ c, c ≠ 50 → c ≠ 51 → μ' c = μ c) ∧ PS μ' d (Uu P y n) := by
  have w2 := w.2.1
  intro m
  induction m with
  | zero =>
    intro s f μ hs hf hP
    obtain ⟨f, rfl⟩ : ∃ m, f = m + 1 := ⟨f - 1, by omega⟩
    have : s = n := by omega
    subst this
    exact ⟨μ, by rw [lp_X5_move_61, if_pos (Int32.le_refl _)], fun _ _ _ => rfl, hP⟩
  | succ m ih =>
    intro s f μ hs hf hP
    obtain ⟨f, rfl⟩ : ∃ m, f = m + 1 := ⟨f - 1, by omega⟩
    obtain ⟨μa, a0, a1, a2⟩ := m_gu w (p := y + s) (by omega) (by omega) hP
    have a2' : PS μa d (Uu P y (s + 1)) := by
      intro q hq
      have := a2 q hq
      have e : (if q = y + s then Uu P y s (y + s - 1) else if q + 1 = y + s then Uu P y s (y + s) else Uu P y s q) = Uu P y (s + 1) q := by
        unfold Uu
        by_cases c1 : q = y + s
        · subst c1
          rw [if_pos rfl, if_pos (by omega), if_pos (by omega)]
        · rw [if_neg c1]
          by_cases c2 : q + 1 = y + s
          · rw [if_pos c2, if_neg (by omega), if_neg (by omega), if_neg (by omega), if_pos (by omega), c2]
          · rw [if_neg c2, if_neg c2, if_neg (show ¬ q + 1 = y + (s + 1) by omega)]
            by_cases c3 : y ≤ q + 1 ∧ q + 1 < y + s
            · rw [if_pos c3, if_pos (by omega)]
            · rw [if_neg c3, if_neg (by omega)]
      rw [← e]; exact this
    obtain ⟨μ', e, f1, f2⟩ := ih (s + 1) f μa (by omega) (by omega) a2'
    refine ⟨μ', ?_, fun c c1 c2 => by rw [f1 c c1 c2, a1 c c1 c2], f2⟩
    rw [lp_X5_move_61, if_neg (show ¬ nI n ≤ nI s by rw [q_le (by omega) (by omega)]; omega), q_add, a0, b1_some, lt_eq, l_1, q_add, e]
theorem m_100 {d : BD} {n y : Nat} {P : Nat → Nat} {x3 : Int32} (w : WFd d) (h : y + n < d 0 1) : ∀ (m s f : Nat) (μ : Mem), s + m = n → m < f → PS μ d (Du P y n s) → ∃ μ', lp_X5_move_100 (nI n) x3 (nI y) f (nI (n - s)) μ = some μ' ∧ (∀ c, c ≠ 50 → c ≠ 51 → μ' c = μ c) ∧ PS μ' d (Du P y n n) := by
  have w2 := w.2.1
  intro m
  induction m with
  | zero =>
    intro s f μ hs hf hP
    obtain ⟨f, rfl⟩ : ∃ m, f = m + 1 := ⟨f - 1, by omega⟩
    have : s = n := by omega
    subst this
    exact ⟨μ, by rw [lp_X5_move_100, Nat.sub_self, if_pos (by decide)], fun _ _ _ => rfl, hP⟩
  | succ m ih =>
    intro s f μ hs hf hP
    obtain ⟨f, rfl⟩ : ∃ m, f = m + 1 := ⟨f - 1, by omega⟩
    obtain ⟨μa, a0, a1, a2⟩ := m_gu w (p := y + (n - s)) (by omega) (by omega) hP
    have a2' : PS μa d (Du P y n (s + 1)) := by
      intro q hq
      have := a2 q hq
      have e : (if q = y + (n - s) then Du P y n s (y + (n - s) - 1) else if q + 1 = y + (n - s) then Du P y n s (y + (n - s)) else Du P y n s q) = Du P y n (s + 1) q := by
        unfold Du
        by_cases c1 : q = y + (n - s)
        · subst c1
          rw [if_pos rfl, if_neg (by omega), if_neg (by omega), if_neg (by omega), if_pos (by omega)]
        · rw [if_neg c1]
          by_cases c2 : q + 1 = y + (n - s)
          · rw [if_pos c2, if_pos (by omega), if_pos (by omega)]
          · rw [if_neg c2, if_neg (show ¬ q + s = y + n by omega), if_neg (show ¬ q + (s + 1) = y + n by omega)]
            by_cases c3 : y + n < q + s ∧ q ≤ y + n
            · rw [if_pos c3, if_pos (by omega)]
            · rw [if_neg c3, if_neg (by omega)]
      rw [← e]; exact this
    obtain ⟨μ', e, f1, f2⟩ := ih (s + 1) f μa (by omega) (by omega) a2'
    refine ⟨μ', ?_, fun c c1 c2 => by rw [f1 c c1 c2, a1 c c1 c2], f2⟩
    have dd : nI (n - s) + (-1) = nI (n - (s + 1)) := by
      rw [show n - s = (n - (s + 1)) + 1 by omega]; exact dn_dec (n - (s + 1) + 1)
    rw [lp_X5_move_100, if_neg (show ¬ nI (n - s) ≤ 0 by rw [l_0, q_le (by omega) (by omega)]; omega), q_add, a0, b1_some, lt_eq, dd, e]
theorem m_52 {d : BD} {b n t : Nat} {x1 : Int32} (w : WFd d) (h1 : b + n ≤ d 0 1) : ∀ (m y f : Nat) (μ : Mem), t + m = y → y ≤ b → m < f → PS μ d (sg b n y) → ∃ μ', lp_X5_move_52 x1 (nI n) (nI t) f (nI y) μ = some μ' ∧ (∀ c, c ≠ 50 → c ≠ 51 → μ' c = μ c) ∧ PS μ' d (sg b n t) := by
  have w2 := w.2.1
  intro m
  induction m with
  | zero =>
    intro y f μ hy hyb hf hP
    obtain ⟨f, rfl⟩ : ∃ m, f = m + 1 := ⟨f - 1, by omega⟩
    have : y = t := by omega
    subst this
    exact ⟨μ, by rw [lp_X5_move_52, if_pos (Int32.le_refl _)], fun _ _ _ => rfl, hP⟩
  | succ m ih =>
    intro y f μ hy hyb hf hP
    obtain ⟨f, rfl⟩ : ∃ m, f = m + 1 := ⟨f - 1, by omega⟩
    have hP0 : PS μ d (Uu (sg b n y) y 0) := by
      intro q hq
      have := hP q hq
      have e : Uu (sg b n y) y 0 q = sg b n y q := by
        unfold Uu
        by_cases c : q + 1 = y + 0
        · rw [if_pos c, show y - 1 = q by omega]
        · rw [if_neg c, if_neg (by omega)]
      rw [e]; exact this
    obtain ⟨μa, a0, a1, a2⟩ := m_61 (x1 := x1) (x3 := nI t) w (y := y) (n := n) (by omega) (by omega) n 0 FU μ (by omega) (by unfold FU; omega) hP0
    have a2' : PS μa d (sg b n (y - 1)) := by
      intro q hq
      have := a2 q hq
      have e : Uu (sg b n y) y n q = sg b n (y - 1) q := by
        unfold Uu sg
        (repeat' split) <;> omega
      rw [← e]; exact this
    obtain ⟨μ', e, f1, f2⟩ := ih (y - 1) f μa (by omega) (by omega) (by omega) a2'
    refine ⟨μ', ?_, fun c c1 c2 => by rw [f1 c c1 c2, a1 c c1 c2], f2⟩
    have dd : nI y + (-1) = nI (y - 1) := by
      obtain ⟨z, rfl⟩ : ∃ z, y = z + 1 := ⟨y - 1, by omega⟩
      exact dn_dec (z + 1)
    rw [lp_X5_move_52, if_neg (show ¬ nI y ≤ nI t by rw [q_le (by omega) (by omega)]; omega), show (0 : Int32) = nI 0 from rfl, a0, b1_some, lt_eq, dd, e]
theorem m_91 {d : BD} {b n t : Nat} (w : WFd d) (h1 : t + n ≤ d 0 1) : ∀ (m y f : Nat) (μ : Mem), y + m = t → b ≤ y → m < f → PS μ d (sg b n y) → ∃ μ', lp_X5_move_91 (nI n) (nI t) f (nI y) μ = some μ' ∧ (∀ c, c ≠ 50 → c ≠ 51 → μ' c = μ c) ∧ PS μ' d (sg b n t) := by
  have w2 := w.2.1
  intro m
  induction m with
  | zero =>
    intro y f μ hy hyb hf hP
    obtain ⟨f, rfl⟩ : ∃ m, f = m + 1 := ⟨f - 1, by omega⟩
    have : y = t := by omega
    subst this
    exact ⟨μ, by rw [lp_X5_move_91, if_pos (Int32.le_refl _)], fun _ _ _ => rfl, hP⟩
  | succ m ih =>
    intro y f μ hy hyb hf hP
    obtain ⟨f, rfl⟩ : ∃ m, f = m + 1 := ⟨f - 1, by omega⟩
    have hP0 : PS μ d (Du (sg b n y) y n 0) := by
      intro q hq
      have := hP q hq
      have e : Du (sg b n y) y n 0 q = sg b n y q := by
        unfold Du
        by_cases c : q + 0 = y + n
        · rw [if_pos c, show y + n = q by omega]
        · rw [if_neg c, if_neg (by omega)]
      rw [e]; exact this
    obtain ⟨μa, a0, a1, a2⟩ := m_100 (x3 := nI t) w (y := y) (n := n) (by omega) n 0 FU μ (by omega) (by unfold FU; omega) hP0
    rw [Nat.sub_zero] at a0
    have a2' : PS μa d (sg b n (y + 1)) := by
      intro q hq
      have := a2 q hq
      have e : Du (sg b n y) y n n q = sg b n (y + 1) q := by
        unfold Du sg
        (repeat' split) <;> omega
      rw [← e]; exact this
    obtain ⟨μ', e, f1, f2⟩ := ih (y + 1) f μa (by omega) (by omega) (by omega) a2'
    refine ⟨μ', ?_, fun c c1 c2 => by rw [f1 c c1 c2, a1 c c1 c2], f2⟩
    rw [lp_X5_move_91, if_neg (show ¬ nI t ≤ nI y by rw [q_le (by omega) (by omega)]; omega), a0, b1_some, lt_eq, l_1, q_add, e]
theorem t_move (x y z : Int32) (μ : Mem) (h : Inv μ) : ∃ (r : Int32) (μ1 μ2 : Mem), f_X4_move x y z μ = some (r, μ1) ∧ f_X5_move x y z μ1 = some (r, μ2) ∧ Inv μ2 := by
  have hI' := h
  obtain ⟨⟨d, hI⟩, ht, hf⟩ := h
  have w := hI.1
  have hm := hI.2.2.1
  have hb := hI.2.1
  have w2 := w.2.1
  have l01 : d 0 1 < 2147483648 := by omega
  have triv : ∀ r : Int32, f_X4_move x y z μ = some (r, μ) → f_X5_move x y z μ = some (r, μ) → ∃ (r : Int32) (μ1 μ2 : Mem), f_X4_move x y z μ = some (r, μ1) ∧ f_X5_move x y z μ1 = some (r, μ2) ∧ Inv μ2 :=
    fun r a b => ⟨r, μ, μ, a, b, hI'⟩
  by_cases y1 : 1 ≤ y
  · rcases ix7 (x := x) w.2.1 with hx | ⟨b, hbR, rfl⟩
    · apply triv (-1)
      · rw [f_X4_move, if_pos y1, c_hasRight_n hb.2.1 hx, b2_some, if_pos (e00 ▸ trivial)]
      · rw [f_X5_move, if_pos y1, hm.2.1]
        rcases hx with hx | hx
        · rw [if_pos hx]
        · rw [if_neg (nn_of hx (by omega)), if_pos hx]
    · have c1 : f_X4_move (nI b) y z μ = if y ≤ μ 2 6 - nI b then (if z < 0 then some (-2, μ) else if z ≤ μ 2 6 - y then (b1 (f_X1_becomeLike 8 2 μ) fun μ3 => b1 (f_X1_takeMoved 2 8 (nI b) y z μ3) fun μ4 => lt (up μ4 0 9 0) fun μ5 => some (y, μ5)) else some (-2, μ)) else some (-1, μ) := by
        rw [f_X4_move, if_pos y1, c_hasRight_y hb.2.1 l01 hbR, b2_some, if_neg (e10 ▸ not_false)]
      have m1 : ∀ ν : Mem, ν 43 6 = nI (d 0 1) → f_X5_move (nI b) y z ν = if y ≤ nI (d 0 1) - nI b then (b2 (f_X5_within z 0 (nI (d 0 1) - y) ν) fun x2 μ1 => if x2 = 0 then some (-2, μ1) else b1 (lp_X5_move_52 (nI b) y z FU (nI b) μ1) fun μ7 => b1 (lp_X5_move_91 y z FU (nI b) μ7) fun μ12 => some (y, μ12)) else some (-1, ν) := by
        intro ν hν
        rw [f_X5_move, if_pos y1, if_neg (nI_pos (by omega)), hν, if_neg (nI_ge hbR (by omega))]
      rw [hb.2.1, q_sub (by omega)] at c1
      rw [q_sub (by omega)] at m1
      rcases pk_ix y (n := d 0 1 - b + 1) (by omega) with hy | hy | ⟨n, hn, rfl⟩
      · rw [fa_le, i1] at y1
        rw [fa_lt, i0] at hy
        omega
      · have : ¬ y ≤ nI (d 0 1 - b) := Int32.not_le.mpr (by rw [le_succ (by omega)]; exact hy)
        apply triv (-1)
        · rw [c1, if_neg this]
        · rw [m1 μ hm.2.1, if_neg this]
      · have n1 : 1 ≤ n := by rw [l_1, q_le (by omega) (by omega)] at y1; exact y1
        have cn : nI n ≤ nI (d 0 1 - b) := by rw [q_le (by omega) (by omega)]; omega
        rw [if_pos cn, q_sub (by omega)] at c1
        simp only [if_pos cn] at m1
        rw [q_sub (by omega)] at m1
        rcases pk_ix z (n := d 0 1 - n + 1) (by omega) with hz | hz | ⟨t, htt, rfl⟩
        · apply triv (-2)
          · rw [c1, if_pos hz]
          · rw [m1 μ hm.2.1, wi_n (Or.inl hz), b2_some, if_pos (e00 ▸ trivial)]
        · have zz : nI (d 0 1 - n) < z := by rw [le_succ (by omega)]; exact hz
          apply triv (-2)
          · rw [c1, if_neg (nn_of hz (by omega)), if_neg (Int32.not_le.mpr zz)]
          · rw [m1 μ hm.2.1, wi_n (Or.inr zz), b2_some, if_pos (e00 ▸ trivial)]
        · rw [if_neg (nI_pos (by omega)), if_pos (by rw [q_le (by omega) (by omega)]; omega)] at c1
          obtain ⟨μa, a0, a1, a2⟩ := c_becomeLike (q0 := 8) (q1 := 2) w (by omega) hb
          obtain ⟨μb, b0, b1', b2'⟩ := c_tm3 (b := b) (n := n) (t := t) w (by omega) (by omega) (d 0 1) 0 FU μa (by omega) (by unfold FU; omega) (by rw [a2 2 (by omega)]; exact hb.2.1) a1
          have hmb : BKm (up μb 0 9 0) d := BKm_fr hm (fun i _ _ => by rw [up_ne (by omega), b1' 43 (by omega) (by omega), a2 43 (by omega)]) (fun c _ _ => by rw [up_ne (by omega), b1' c (by omega) (by omega), a2 c (by omega)])
          have P0 : PS (up μb 0 9 0) d (sg b n b) := by
            intro q hq
            have := hmb.2.2.2.2.2.2 q hq
            rw [show sg b n b q = q by unfold sg; (repeat' split) <;> omega]
            exact this
          have M : ∃ μd, (b1 (lp_X5_move_52 (nI b) (nI n) (nI t) FU (nI b) (up μb 0 9 0)) fun μ7 => b1 (lp_X5_move_91 (nI n) (nI t) FU (nI b) μ7) fun μ12 => some (nI n, μ12)) = some (nI n, μd) ∧ (∀ c, c ≠ 50 → c ≠ 51 → μd c = up μb 0 9 0 c) ∧ PS μd d (sg b n t) := by
            by_cases cb : t ≤ b
            · obtain ⟨μc, c0, c1', c2⟩ := m_52 (x1 := nI b) (b := b) (n := n) (t := t) w (by omega) (b - t) b FU (up μb 0 9 0) (by omega) (Nat.le_refl _) (by unfold FU; omega) P0
              refine ⟨μc, ?_, c1', c2⟩
              rw [c0, b1_some, FU_k 1 (by decide), lp_X5_move_91, if_pos (by rw [q_le (by omega) (by omega)]; exact cb)]; rfl
            · obtain ⟨μc, c0, c1', c2⟩ := m_91 (b := b) (n := n) (t := t) w (by omega) (t - b) b FU (up μb 0 9 0) (by omega) (Nat.le_refl _) (by unfold FU; omega) P0
              refine ⟨μc, ?_, c1', c2⟩
              have s0 : lp_X5_move_52 (nI b) (nI n) (nI t) FU (nI b) (up μb 0 9 0) = some (up μb 0 9 0) := by
                rw [FU_k 1 (by decide), lp_X5_move_52, if_pos (by rw [q_le (by omega) (by omega)]; omega)]
              rw [s0, b1_some, c0]; rfl
          obtain ⟨μd, d0, d1, d2⟩ := M
          have F : ∀ c, c ≠ 0 → c < 6 ∨ 13 < c → c ≠ 50 → c ≠ 51 → μd c = μ c := fun c h0 h1 h2 h3 => by rw [d1 c h2 h3, up_ne h0, b1' c (by omega) (by omega), a2 c (by omega)]
          have F0 : ∀ i, i ≠ 9 → μd 0 i = μ 0 i := fun i hi => by rw [d1 0 (by omega) (by omega), up_ot hi, b1' 0 (by omega) (by omega), a2 0 (by omega)]
          refine ⟨nI n, up μb 0 9 0, μd, ?_, ?_, ⟨dM d b n t, Iv_bk hI (WFd_M w (by omega) (by omega)) ?_ ?_ ?_ (fun c hc => F c (by omega) (by omega) (by omega) (by omega)) (F0 _ (by omega)) (by rw [F 43 (by omega) (by omega) (by omega) (by omega)])⟩, ?_, ?_⟩
          · rw [c1, a0, b1_some, f_X1_takeMoved, show (0 : Int32) = nI 0 from rfl, b0]; rfl
          · rw [m1 _ hmb.2.1, show (0 : Int32) = nI 0 from rfl, wi_j (by omega) (by omega) (by omega), b2_some, if_neg (by decide)]
            exact d0
          · obtain ⟨g1, g2, g3, g4, g5, g6, g7⟩ := hb
            unfold BKc
            simp (disch := omega) only [dM_o, dM_4, dM_5]
            refine ⟨by rw [F 2 (by omega) (by omega) (by omega) (by omega)]; exact g1, by rw [F 2 (by omega) (by omega) (by omega) (by omega)]; exact g2, by rw [F 2 (by omega) (by omega) (by omega) (by omega)]; exact g3, by rw [F 2 (by omega) (by omega) (by omega) (by omega)]; exact g4, by rw [F 2 (by omega) (by omega) (by omega) (by omega)]; exact g5, fun k hk => ?_, fun k hk => ?_⟩
            · rw [F (2 + 1) (by omega) (by omega) (by omega) (by omega), F (2 + 2) (by omega) (by omega) (by omega) (by omega), F (2 + 3) (by omega) (by omega) (by omega) (by omega)]; exact g6 k hk
            · obtain ⟨u1, u2⟩ := b2' k hk
              rw [if_pos (by omega)] at u1 u2
              rw [d1 (2 + 4) (by omega) (by omega), d1 (2 + 5) (by omega) (by omega), up_ne (by omega), up_ne (by omega)]
              exact ⟨u1, u2⟩
          · obtain ⟨g1, g2, g3, g4, g5, g6, g7⟩ := hm
            unfold BKm
            simp (disch := omega) only [dM_o, dM_4, dM_5]
            rw [F 43 (by omega) (by omega) (by omega) (by omega), F 47 (by omega) (by omega) (by omega) (by omega), F 48 (by omega) (by omega) (by omega) (by omega), F 49 (by omega) (by omega) (by omega) (by omega)]
            exact ⟨g1, g2, g3, g4, g5, g6, fun k hk => d2 k hk⟩
          · rw [d1 0 (by omega) (by omega), up_at]; rfl
          · rw [F0 _ (by omega), F 43 (by omega) (by omega) (by omega) (by omega)]; exact ht
          · rw [F0 _ (by omega), F 43 (by omega) (by omega) (by omega) (by omega)]; exact hf
  · apply triv (-2)
    · rw [f_X4_move, if_neg y1]
    · rw [f_X5_move, if_neg y1]
