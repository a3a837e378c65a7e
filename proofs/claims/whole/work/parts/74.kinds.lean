theorem cpkT {R : Type} {x : Option R} : ck (cpk (0 : Int32) (0 : Int32) (7 : Int32) 7 7) x = x := by
  have : cpk (0 : Int32) (0 : Int32) (7 : Int32) 7 7 = true := by decide
  rw [this, ck, if_pos rfl]
theorem tn7 : (7 : Int32).toNatClampNeg = 7 := by decide
theorem cpm_ne {μ : Mem} {a b c d e x : Nat} (h : x ≠ c) : cpm μ a b c d e x = μ x := by funext z; exact if_neg h
theorem cpm_at {μ : Mem} {a c k : Nat} (h : k < 7) : cpm μ a 0 c 0 7 c k = μ a k := by
  unfold cpm
  rw [if_pos rfl]
  show (if 0 ≤ k ∧ k < 0 + 7 then μ a (0 + (k - 0)) else μ c k) = _
  rw [if_pos (by omega), show 0 + (k - 0) = k by omega]
theorem c_becomeLike {q0 q1 : Nat} {μ : Mem} {d : BD} (w : WFd d) (hq : q0 + 5 < q1 ∨ q1 + 5 < q0) (h : BKc q1 μ d) : ∃ μ', f_X1_becomeLike q0 q1 μ = some μ' ∧ BKc q0 μ' d ∧ ∀ c, c < q0 ∨ q0 + 5 < c → μ' c = μ c := by
  obtain ⟨h1, h2, h3, h4, h5, h6, h7⟩ := h
  have w1 := w.1
  have w2 := w.2.1
  let μ5 := up (up (up (up (up μ q0 5 (nI (d 0 0))) q0 6 (nI (d 0 1))) q0 7 (nI (d 0 2))) q0 8 (nI (d 0 3))) q0 9 (nI (d 0 4))
  let μx := cpm (cpm (cpm (cpm (cpm μ5 (q1 + 1) 0 (q0 + 1) 0 7) (q1 + 2) 0 (q0 + 2) 0 7) (q1 + 3) 0 (q0 + 3) 0 7) (q1 + 4) 0 (q0 + 4) 0 7) (q1 + 5) 0 (q0 + 5) 0 7
  have e5 : ∀ c, c ≠ q0 → μ5 c = μ c := fun c hc => by
    show up (up (up (up (up μ q0 5 (nI (d 0 0))) q0 6 (nI (d 0 1))) q0 7 (nI (d 0 2))) q0 8 (nI (d 0 3))) q0 9 (nI (d 0 4)) c = _
    rw [up_ne hc, up_ne hc, up_ne hc, up_ne hc, up_ne hc]
  have ex : ∀ c, c ≤ q0 ∨ q0 + 5 < c → μx c = μ5 c := fun c hc => by
    show cpm (cpm (cpm (cpm (cpm μ5 (q1 + 1) 0 (q0 + 1) 0 7) (q1 + 2) 0 (q0 + 2) 0 7) (q1 + 3) 0 (q0 + 3) 0 7) (q1 + 4) 0 (q0 + 4) 0 7) (q1 + 5) 0 (q0 + 5) 0 7 c = _
    rw [cpm_ne (by omega), cpm_ne (by omega), cpm_ne (by omega), cpm_ne (by omega), cpm_ne (by omega)]
  have x1 : ∀ k, k < 7 → μx (q0 + 1) k = μ (q1 + 1) k := fun k hk => by
    show cpm (cpm (cpm (cpm (cpm μ5 (q1 + 1) 0 (q0 + 1) 0 7) (q1 + 2) 0 (q0 + 2) 0 7) (q1 + 3) 0 (q0 + 3) 0 7) (q1 + 4) 0 (q0 + 4) 0 7) (q1 + 5) 0 (q0 + 5) 0 7 (q0 + 1) k = _
    rw [cpm_ne (by omega), cpm_ne (by omega), cpm_ne (by omega), cpm_ne (by omega), cpm_at hk, e5 _ (by omega)]
  have x2 : ∀ k, k < 7 → μx (q0 + 2) k = μ (q1 + 2) k := fun k hk => by
    show cpm (cpm (cpm (cpm (cpm μ5 (q1 + 1) 0 (q0 + 1) 0 7) (q1 + 2) 0 (q0 + 2) 0 7) (q1 + 3) 0 (q0 + 3) 0 7) (q1 + 4) 0 (q0 + 4) 0 7) (q1 + 5) 0 (q0 + 5) 0 7 (q0 + 2) k = _
    rw [cpm_ne (by omega), cpm_ne (by omega), cpm_ne (by omega), cpm_at hk, cpm_ne (by omega), e5 _ (by omega)]
  have x3 : ∀ k, k < 7 → μx (q0 + 3) k = μ (q1 + 3) k := fun k hk => by
    show cpm (cpm (cpm (cpm (cpm μ5 (q1 + 1) 0 (q0 + 1) 0 7) (q1 + 2) 0 (q0 + 2) 0 7) (q1 + 3) 0 (q0 + 3) 0 7) (q1 + 4) 0 (q0 + 4) 0 7) (q1 + 5) 0 (q0 + 5) 0 7 (q0 + 3) k = _
    rw [cpm_ne (by omega), cpm_ne (by omega), cpm_at hk, cpm_ne (by omega), cpm_ne (by omega), e5 _ (by omega)]
  have x4 : ∀ k, k < 7 → μx (q0 + 4) k = μ (q1 + 4) k := fun k hk => by
    show cpm (cpm (cpm (cpm (cpm μ5 (q1 + 1) 0 (q0 + 1) 0 7) (q1 + 2) 0 (q0 + 2) 0 7) (q1 + 3) 0 (q0 + 3) 0 7) (q1 + 4) 0 (q0 + 4) 0 7) (q1 + 5) 0 (q0 + 5) 0 7 (q0 + 4) k = _
    rw [cpm_ne (by omega), cpm_at hk, cpm_ne (by omega), cpm_ne (by omega), cpm_ne (by omega), e5 _ (by omega)]
  have x5 : ∀ k, k < 7 → μx (q0 + 5) k = μ (q1 + 5) k := fun k hk => by
    show cpm (cpm (cpm (cpm (cpm μ5 (q1 + 1) 0 (q0 + 1) 0 7) (q1 + 2) 0 (q0 + 2) 0 7) (q1 + 3) 0 (q0 + 3) 0 7) (q1 + 4) 0 (q0 + 4) 0 7) (q1 + 5) 0 (q0 + 5) 0 7 (q0 + 5) k = _
    rw [cpm_at hk, cpm_ne (by omega), cpm_ne (by omega), cpm_ne (by omega), cpm_ne (by omega), e5 _ (by omega)]
  refine ⟨μx, ?_, ⟨?_, ?_, ?_, ?_, ?_, fun k hk => ?_, fun k hk => ?_⟩, fun c hc => by rw [ex c (by omega), e5 c (by omega)]⟩
  · have n0 : q1 ≠ q0 := by omega
    simp only [f_X1_becomeLike, lt_eq, cpkT, tn0, tn7, up_ne n0, h1, h2, h3, h4, h5]
    rfl
  · rw [ex q0 (by omega)]; simp [μ5, up_if]
  · rw [ex q0 (by omega)]; simp [μ5, up_if]
  · rw [ex q0 (by omega)]; simp [μ5, up_if]
  · rw [ex q0 (by omega)]; simp [μ5, up_if]
  · rw [ex q0 (by omega)]; simp [μ5, up_if]
  · rw [x1 k (by omega), x2 k (by omega), x3 k (by omega)]; exact h6 k hk
  · rw [x4 k (by omega), x5 k (by omega)]; exact h7 k hk
/-! the readings: do they all hold of books d? -/
def hd (B : Nat → Nat) (C : Nat → Int32) (d : BD) (n rc : Nat) : Prop := ∀ k, n ≤ k → k < rc → orN (VV d (B k) 0 0).1 = C k
def RDc (μ : Mem) (B : Nat → Nat) (C : Nat → Int32) (rc : Nat) : Prop := μ 0 8 = nI rc ∧ ∀ k, k < rc → μ 33 k = nI (B k) ∧ μ 34 k = C k ∧ B k ≤ 7
def RDm (μ : Mem) (B : Nat → Nat) (C : Nat → Int32) (rc : Nat) : Prop := μ 43 29 = nI rc ∧ ∀ k, k < rc → μ 62 k = nI (B k) ∧ μ 63 k = C k ∧ B k ≤ 7
def hv (B : Nat → Nat) (C : Nat → Int32) (d : BD) (rc : Nat) (v : Int32) : Prop := (v = nI 1 ∧ hd B C d 0 rc) ∨ (v = nI 0 ∧ ¬ hd B C d 0 rc)
theorem c_rh13 {B : Nat → Nat} {C : Nat → Int32} {d : BD} {rc : Nat} (w : WFd d) (hr : rc ≤ 8) : ∀ (m n f : Nat) (μ : Mem), n + m = rc → m < f → RDc μ B C rc → μ 23 8 = nI (d 0 0) → μ 23 9 = nI (d 0 1) → PC 23 μ d → ∃ μ', (∀ c, c < 25 ∨ 28 < c → μ' c = μ c) ∧ ((hd B C d n rc ∧ lp_X4_readingsHoldIfSupposed_13 f (nI n) μ = some (.inl μ')) ∨ (¬ hd B C d n rc ∧ lp_X4_readingsHoldIfSupposed_13 f (nI n) μ = some (.inr (0, μ')))) := by
  intro m
  induction m with
  | zero =>
    intro n f μ hn hf hR h8 h9 hpc
    obtain ⟨f, rfl⟩ : ∃ m, f = m + 1 := ⟨f - 1, by omega⟩
    exact ⟨μ, fun _ _ => rfl, .inl ⟨fun k h1 h2 => by omega, by rw [lp_X4_readingsHoldIfSupposed_13, hR.1, show n = rc by omega, if_pos (Int32.le_refl _)]⟩⟩
  | succ m ih =>
    intro n f μ hn hf hR h8 h9 hpc
    obtain ⟨f, rfl⟩ : ∃ m, f = m + 1 := ⟨f - 1, by omega⟩
    obtain ⟨r1, r2, r3⟩ := hR.2 n (by omega)
    obtain ⟨μb, b0, b1', _⟩ := c_leastBy (al := 23) (wb := B n) (.inr rfl) w r3 h8 h9 hpc
    have fb : ∀ c, c < 25 ∨ 28 < c → μb c = μ c := fun c hc => b1' c (by omega) (by omega)
    have st : lp_X4_readingsHoldIfSupposed_13 (f + 1) (nI n) μ = if orN (VV d (B n) 0 0).1 = C n then lp_X4_readingsHoldIfSupposed_13 f (nI (n + 1)) μb else some (.inr (0, μb)) := by
      rw [lp_X4_readingsHoldIfSupposed_13, hR.1, if_neg (show ¬ nI rc ≤ nI n by rw [q_le (by omega) (by omega)]; omega), q_ck (show n < 8 by omega) (by omega), q_cl (by omega), r1, b0, b2_some, q_ck (by omega) (by omega), fb 34 (by omega), r2, lt_eq, l_1, q_add]
    rw [st]
    by_cases c : orN (VV d (B n) 0 0).1 = C n
    · rw [if_pos c]
      have hR' : RDc μb B C rc := by
        unfold RDc
        rw [fb 0 (by omega), fb 33 (by omega), fb 34 (by omega)]; exact hR
      obtain ⟨μ', g1, g2⟩ := ih (n + 1) f μb (by omega) (by omega) hR' (by rw [fb 23 (by omega)]; exact h8) (by rw [fb 23 (by omega)]; exact h9) (PC_fr hpc (fb _ (by omega)))
      refine ⟨μ', fun x hx => by rw [g1 x hx, fb x hx], ?_⟩
      rcases g2 with ⟨g2, g3⟩ | ⟨g2, g3⟩
      · refine .inl ⟨fun k h1 h2 => ?_, g3⟩
        by_cases e : k = n
        · rw [e]; exact c
        · exact g2 k (by omega) h2
      · exact .inr ⟨fun z => g2 (fun k h1 h2 => z k (by omega) h2), g3⟩
    · rw [if_neg c]
      exact ⟨μb, fb, .inr ⟨fun z => c (z n (Nat.le_refl _) (by omega)), rfl⟩⟩
theorem c_rh {B : Nat → Nat} {C : Nat → Int32} {d : BD} {rc : Nat} {μ : Mem} (w : WFd d) (hr : rc ≤ 8) (hR : RDc μ B C rc) (hb : BKc 8 μ d) : ∃ v μ', f_X4_readingsHoldIfSupposed μ = some (v, μ') ∧ hv B C d rc v ∧ ∀ c, c < 23 ∨ 28 < c → μ' c = μ c := by
  obtain ⟨μa, a0, a1, a2, a3, a4⟩ := c_take (al := 23) (bq := 8) (.inr rfl) (.inr rfl) w hb
  have hR' : RDc μa B C rc := by
    unfold RDc
    rw [a1 0 (by omega) (by omega), a1 33 (by omega) (by omega), a1 34 (by omega) (by omega)]; exact hR
  obtain ⟨μ', g1, g2⟩ := c_rh13 w hr rc 0 FU μa (by omega) (by unfold FU; omega) hR' a2 a3 a4
  have fr : ∀ c, c < 23 ∨ 28 < c → μ' c = μ c := fun c hc => by rw [g1 c (by omega), a1 c (by omega) (by omega)]
  rw [show nI 0 = (0 : Int32) from rfl] at g2
  rcases g2 with ⟨g2, g3⟩ | ⟨g2, g3⟩
  · exact ⟨nI 1, μ', by simp only [f_X4_readingsHoldIfSupposed, a0, b1_some, g3, s1_inl]; rfl, .inl ⟨rfl, g2⟩, fr⟩
  · exact ⟨nI 0, μ', by simp only [f_X4_readingsHoldIfSupposed, a0, b1_some, g3, s1_inr]; rfl, .inr ⟨rfl, g2⟩, fr⟩
theorem m_as2 {B : Nat → Nat} {C : Nat → Int32} {d : BD} {rc : Nat} (w : WFd d) (hr : rc ≤ 8) : ∀ (m n f : Nat) (μ : Mem), n + m = rc → m < f → RDm μ B C rc → BKm μ d → ∃ μ', (∀ c, c < 55 ∨ 57 < c → μ' c = μ c) ∧ ((hd B C d n rc ∧ lp_X5_areSo_2 f (nI n) μ = some (.inl μ')) ∨ (¬ hd B C d n rc ∧ lp_X5_areSo_2 f (nI n) μ = some (.inr (0, μ')))) := by
  intro m
  induction m with
  | zero =>
    intro n f μ hn hf hR hb
    obtain ⟨f, rfl⟩ : ∃ m, f = m + 1 := ⟨f - 1, by omega⟩
    exact ⟨μ, fun _ _ => rfl, .inl ⟨fun k h1 h2 => by omega, by rw [lp_X5_areSo_2, hR.1, show n = rc by omega, if_pos (Int32.le_refl _)]⟩⟩
  | succ m ih =>
    intro n f μ hn hf hR hb
    obtain ⟨f, rfl⟩ : ∃ m, f = m + 1 := ⟨f - 1, by omega⟩
    obtain ⟨r1, r2, r3⟩ := hR.2 n (by omega)
    obtain ⟨μb, b0, fb, _⟩ := m_findAll (w := B n) w r3 hb
    have st : lp_X5_areSo_2 (f + 1) (nI n) μ = if orN (VV d (B n) 0 0).1 = C n then lp_X5_areSo_2 f (nI (n + 1)) μb else some (.inr (0, μb)) := by
      rw [lp_X5_areSo_2, hR.1, if_neg (show ¬ nI rc ≤ nI n by rw [q_le (by omega) (by omega)]; omega), q_ck (show n < 8 by omega) (by omega), q_cl (by omega), r1, b0, b2_some, q_ck (by omega) (by omega), fb 63 (by omega), r2, lt_eq, l_1, q_add]
    rw [st]
    by_cases c : orN (VV d (B n) 0 0).1 = C n
    · rw [if_pos c]
      have hR' : RDm μb B C rc := by
        unfold RDm
        rw [fb 43 (by omega), fb 62 (by omega), fb 63 (by omega)]; exact hR
      obtain ⟨μ', g1, g2⟩ := ih (n + 1) f μb (by omega) (by omega) hR' (BKm_fr hb (fun i _ _ => by rw [fb 43 (by omega)]) (fun x _ _ => fb x (by omega)))
      refine ⟨μ', fun x hx => by rw [g1 x hx, fb x hx], ?_⟩
      rcases g2 with ⟨g2, g3⟩ | ⟨g2, g3⟩
      · refine .inl ⟨fun k h1 h2 => ?_, g3⟩
        by_cases e : k = n
        · rw [e]; exact c
        · exact g2 k (by omega) h2
      · exact .inr ⟨fun z => g2 (fun k h1 h2 => z k (by omega) h2), g3⟩
    · rw [if_neg c]
      exact ⟨μb, fb, .inr ⟨fun z => c (z n (Nat.le_refl _) (by omega)), rfl⟩⟩
theorem m_as {B : Nat → Nat} {C : Nat → Int32} {d : BD} {rc : Nat} {μ : Mem} (w : WFd d) (hr : rc ≤ 8) (hR : RDm μ B C rc) (hb : BKm μ d) : ∃ v μ', f_X5_areSo μ = some (v, μ') ∧ hv B C d rc v ∧ ∀ c, c < 55 ∨ 57 < c → μ' c = μ c := by
  obtain ⟨μ', fr, g2⟩ := m_as2 w hr rc 0 FU μ (by omega) (by unfold FU; omega) hR hb
  rw [show nI 0 = (0 : Int32) from rfl] at g2
  rcases g2 with ⟨g2, g3⟩ | ⟨g2, g3⟩
  · exact ⟨nI 1, μ', by simp only [f_X5_areSo, g3, s1_inl]; rfl, .inl ⟨rfl, g2⟩, fr⟩
  · exact ⟨nI 0, μ', by simp only [f_X5_areSo, g3, s1_inr]; rfl, .inr ⟨rfl, g2⟩, fr⟩
theorem hv_one {B : Nat → Nat} {C : Nat → Int32} {d : BD} {rc : Nat} {v v' : Int32} (h : hv B C d rc v) (h' : hv B C d rc v') : v = v' := by
  rcases h with ⟨a, b⟩ | ⟨a, b⟩ <;> rcases h' with ⟨a', b'⟩ | ⟨a', b'⟩
  · rw [a, a']
  · exact absurd b b'
  · exact absurd b' b
  · rw [a, a']
theorem dU2 (d : BD) (i k a b : Nat) : dU (dU d i k a) i k b = dU d i k b := by
  funext x y
  unfold dU
  split <;> rfl
theorem dU_s (d : BD) (i k : Nat) : dU d i k (d i k) = d := by
  funext x y
  unfold dU
  split
  · rename_i h; rw [h.1, h.2]
  · rfl
theorem kinds_joint {B : Nat → Nat} {C : Nat → Int32} {d : BD} {rc j : Nat} {xx : Int32} (w : WFd d) (hr : rc ≤ 8) (hj : j < d 0 0) : ∀ (m t f1 f2 : Nat) (acc : Int32) (a1 a2 : Nat) (μ1 μ2 : Mem), t + m = 3 → m < f1 → m < f2 → BKc 8 μ1 (dU d 1 j a1) → RDc μ1 B C rc → BKm μ2 (dU d 1 j a2) → RDm μ2 B C rc →
    ∃ r ν1 ν2, lp_X4_kinds_28 (nI j) f1 acc (nI t) μ1 = some (r, ν1) ∧ lp_X5_kinds_22 (nI j) xx f2 acc (nI t) μ2 = some (r, ν2) ∧ (∀ c, c < 8 ∨ 13 < c → c < 23 ∨ 28 < c → ν1 c = μ1 c) ∧ (∀ c, c ≠ 47 → c < 55 ∨ 57 < c → ν2 c = μ2 c) ∧ (∀ i, i ≠ j → ν2 47 i = μ2 47 i) := by
  have w1 := w.1
  have d00 : ∀ a, dU d 1 j a 0 0 = d 0 0 := fun a => dU_ne (by omega)
  intro m
  induction m with
  | zero =>
    intro t f1 f2 acc a1 a2 μ1 μ2 ht hf1 hf2 hb hR hm hR'
    obtain ⟨f1, rfl⟩ : ∃ m, f1 = m + 1 := ⟨f1 - 1, by omega⟩
    obtain ⟨f2, rfl⟩ : ∃ m, f2 = m + 1 := ⟨f2 - 1, by omega⟩
    have : t = 3 := by omega
    subst this
    exact ⟨acc, μ1, μ2, by rw [lp_X4_kinds_28, if_pos (by decide)], by rw [lp_X5_kinds_22, if_pos (by decide)], fun _ _ _ => rfl, fun _ _ _ => rfl, fun _ _ => rfl⟩
  | succ m ih =>
    intro t f1 f2 acc a1 a2 μ1 μ2 ht hf1 hf2 hb hR hm hR'
    obtain ⟨f1, rfl⟩ : ∃ m, f1 = m + 1 := ⟨f1 - 1, by omega⟩
    obtain ⟨f2, rfl⟩ : ∃ m, f2 = m + 1 := ⟨f2 - 1, by omega⟩
    have wt : WFd (dU d 1 j t) := WFd_i w (by omega) (by omega) (by omega) (by omega)
    have hb' := BKc_i (i := 1) (k := j) (v := t) (by omega) (by omega) hb
    have hm' := BKm_i (i := 1) (k := j) (v := t) (by omega) (by omega) hm
    rw [dU2] at hb' hm'
    have Ra : RDc (up μ1 9 j (nI t)) B C rc := by
      unfold RDc
      rw [up_ne (by omega), up_ne (by omega), up_ne (by omega)]; exact hR
    have Rb : RDm (up μ2 47 j (nI t)) B C rc := by
      unfold RDm
      rw [up_ne (by omega), up_ne (by omega), up_ne (by omega)]; exact hR'
    obtain ⟨v, ν1, k1, k2, k3⟩ := c_rh wt hr Ra hb'
    obtain ⟨v', ν2, g1, g2, g3⟩ := m_as wt hr Rb hm'
    have : v' = v := hv_one g2 k2
    subst this
    have Rc : RDc ν1 B C rc := by
      unfold RDc
      rw [k3 0 (by omega), k3 33 (by omega), k3 34 (by omega)]; exact Ra
    have Rd : RDm ν2 B C rc := by
      unfold RDm
      rw [g3 43 (by omega), g3 62 (by omega), g3 63 (by omega)]; exact Rb
    have Bc : BKc 8 ν1 (dU d 1 j t) := BKc_fr hb' (k3 _ (by omega)) (k3 _ (by omega)) (k3 _ (by omega)) (k3 _ (by omega)) (k3 _ (by omega)) (k3 _ (by omega))
    have Bm : BKm ν2 (dU d 1 j t) := BKm_fr hm' (fun i _ _ => by rw [g3 43 (by omega)]) (fun x _ _ => g3 x (by omega))
    have go : ∀ acc' : Int32, ∃ r ν1' ν2', lp_X4_kinds_28 (nI j) f1 acc' (nI (t + 1)) ν1 = some (r, ν1') ∧ lp_X5_kinds_22 (nI j) xx f2 acc' (nI (t + 1)) ν2 = some (r, ν2') ∧ (∀ c, c < 8 ∨ 13 < c → c < 23 ∨ 28 < c → ν1' c = μ1 c) ∧ (∀ c, c ≠ 47 → c < 55 ∨ 57 < c → ν2' c = μ2 c) ∧ (∀ i, i ≠ j → ν2' 47 i = μ2 47 i) := by
      intro acc'
      obtain ⟨r, ν1', ν2', e1, e2, e3, e4, e5⟩ := ih (t + 1) f1 f2 acc' t t ν1 ν2 (by omega) (by omega) (by omega) Bc Rc Bm Rd
      refine ⟨r, ν1', ν2', e1, e2, fun c h1 h2 => ?_, fun c h1 h2 => ?_, fun i hi => ?_⟩
      · rw [e3 c h1 h2, k3 c h2, up_ne (by omega)]
      · rw [e4 c h1 h2, g3 c h2, up_ne h1]
      · rw [e5 i hi, g3 47 (by omega), up_ot hi]
    rcases k2 with ⟨rfl, _⟩ | ⟨rfl, _⟩
    · obtain ⟨r, ν1', ν2', e1, e2, e3⟩ := go (acc ||| ((1 : Int32) <<< (nI t &&& 31)))
      refine ⟨r, ν1', ν2', ?_, ?_, e3⟩
      · rw [lp_X4_kinds_28, if_neg (show ¬ (3 : Int32) ≤ nI t by rw [l_3, q_le (by omega) (by omega)]; omega), q_ck (show j < 7 by omega) (by omega), lt_eq, q_cl (by omega)]
        rw [k1, b2_some, if_neg (e10 ▸ not_false), lt_eq, lt_eq, show nI t + 1 = nI (t + 1) from by rw [l_1, q_add], e1]
      · rw [lp_X5_kinds_22, if_neg (show ¬ (3 : Int32) ≤ nI t by rw [l_3, q_le (by omega) (by omega)]; omega), q_ck (show j < 7 by omega) (by omega), lt_eq, q_cl (by omega)]
        rw [g1, b2_some, if_neg (e10 ▸ not_false), lt_eq, lt_eq, show nI t + 1 = nI (t + 1) from by rw [l_1, q_add], e2]
    · obtain ⟨r, ν1', ν2', e1, e2, e3⟩ := go acc
      refine ⟨r, ν1', ν2', ?_, ?_, e3⟩
      · rw [lp_X4_kinds_28, if_neg (show ¬ (3 : Int32) ≤ nI t by rw [l_3, q_le (by omega) (by omega)]; omega), q_ck (show j < 7 by omega) (by omega), lt_eq, q_cl (by omega)]
        rw [k1, b2_some, if_pos (e00 ▸ trivial), lt_eq, show nI t + 1 = nI (t + 1) from by rw [l_1, q_add], e1]
      · rw [lp_X5_kinds_22, if_neg (show ¬ (3 : Int32) ≤ nI t by rw [l_3, q_le (by omega) (by omega)]; omega), q_ck (show j < 7 by omega) (by omega), lt_eq, q_cl (by omega)]
        rw [g1, b2_some, if_pos (e00 ▸ trivial), lt_eq, lt_eq, or0, show nI t + 1 = nI (t + 1) from by rw [l_1, q_add], e2]
theorem t_kinds (x : Int32) (μ : Mem) (h : Inv μ) : ∃ (r : Int32) (μ1 μ2 : Mem), f_X4_kinds x μ = some (r, μ1) ∧ f_X5_kinds x μ1 = some (r, μ2) ∧ Inv μ2 := by
  have hI' := h
  obtain ⟨⟨d, hI⟩, ht, hf⟩ := h
  have w := hI.1
  have hm := hI.2.2.1
  have hb := hI.2.1
  have w1 : d 0 0 < 2147483648 := by have := w.1; omega
  rcases ix7 (x := x) w.1 with hx | ⟨j, hj, rfl⟩
  · exact ⟨-1, μ, μ, by simp only [f_X4_kinds, c_hasLeft_n hb.1 hx, b2_some, e00, if_true], by simp only [f_X5_kinds, m_isLeft_n hm.1 hx, b2_some, e00, if_true], hI'⟩
  · have hj7 : j < 7 := by have := w.1; omega
    obtain ⟨rc, r1, r2, r3, r4⟩ := hI.2.2.2.2.2
    obtain ⟨μa, a0, a1, a2⟩ := c_becomeLike (q0 := 8) (q1 := 2) w (by omega) hb
    have Ra : RDc μa (fun k => (μ 33 k).toNatClampNeg) (fun k => μ 34 k) rc := by
      unfold RDc
      rw [a2 0 (by omega), a2 33 (by omega), a2 34 (by omega)]
      refine ⟨r2, fun k hk => ?_⟩
      obtain ⟨_, _, v, v1, v2⟩ := r4 k hk
      have vv : (μ 33 k).toNatClampNeg = v := by rw [v2, q_cl (by omega)]
      exact ⟨by show μ 33 k = nI (μ 33 k).toNatClampNeg; rw [vv, v2], rfl, by show (μ 33 k).toNatClampNeg ≤ 7; omega⟩
    have Rb : RDm μ (fun k => (μ 33 k).toNatClampNeg) (fun k => μ 34 k) rc := by
      refine ⟨r3, fun k hk => ?_⟩
      obtain ⟨u1, u2, v, v1, v2⟩ := r4 k hk
      have vv : (μ 33 k).toNatClampNeg = v := by rw [v2, q_cl (by omega)]
      exact ⟨by show μ 62 k = nI (μ 33 k).toNatClampNeg; rw [vv, ← u1, v2], u2.symm, by show (μ 33 k).toNatClampNeg ≤ 7; omega⟩
    rw [← dU_s d 1 j] at a1
    have hm0 := hm
    rw [← dU_s d 1 j] at hm
    obtain ⟨k1, k2, k3⟩ := hm0.2.2.2.2.2.1 j hj
    obtain ⟨r, ν1, ν2, e1, e2, e3, e4, e5⟩ := kinds_joint (xx := nI (d 1 j)) w r1 hj 3 0 FU FU 0 (d 1 j) (d 1 j) μa μ (by omega) (by unfold FU; omega) (by unfold FU; omega) a1 Ra hm Rb
    -- the model's loop runs behind the class's: on ν1, not on μ
    have F1 : ∀ c, c < 8 ∨ 13 < c → c < 23 ∨ 28 < c → ν1 c = μ c := fun c h1 h2 => by rw [e3 c h1 h2, a2 c (by omega)]
    have hm1 : BKm ν1 (dU d 1 j (d 1 j)) := BKm_fr hm (fun i _ _ => by rw [F1 43 (by omega) (by omega)]) (fun x _ _ => F1 x (by omega) (by omega))
    have Rb1 : RDm ν1 (fun k => (μ 33 k).toNatClampNeg) (fun k => μ 34 k) rc := by
      unfold RDm
      rw [F1 43 (by omega) (by omega), F1 62 (by omega) (by omega), F1 63 (by omega) (by omega)]; exact Rb
    obtain ⟨r', ν1', ν3, e1', e2', e3', e4', e5'⟩ := kinds_joint (xx := nI (d 1 j)) w r1 hj 3 0 FU FU 0 (d 1 j) (d 1 j) μa ν1 (by omega) (by unfold FU; omega) (by unfold FU; omega) a1 Ra hm1 Rb1
    rw [e1] at e1'
    have : r = r' := by injection e1' with e1'; injection e1'
    subst this
    refine ⟨r, ν1, up ν3 47 j (nI (d 1 j)), ?_, ?_, Inv_23 hI' (fun c hc => ?_)⟩
    · rw [show nI 0 = (0 : Int32) from rfl] at e1
      simp only [f_X4_kinds, c_hasLeft_y hb.1 w1 hj, b2_some, e10, if_false, a0, b1_some, e1]
    · rw [show nI 0 = (0 : Int32) from rfl] at e2'
      have q5 : ν1 43 5 = nI (d 0 0) := by rw [F1 43 (by omega) (by omega)]; exact hm0.1
      have q7 : ν1 47 j = nI (d 1 j) := by rw [F1 47 (by omega) (by omega)]; exact k1
      simp (disch := omega) only [f_X5_kinds, m_isLeft_y q5 w1 hj, b2_some, e10, if_false, q_ck, lt_eq, q_cl, q7, e2']
    · by_cases cm : c = 47
      · subst cm
        funext i
        by_cases ci : i = j
        · subst ci; rw [up_at]; exact k1.symm
        · rw [up_ot ci, e5' i ci, F1 47 (by omega) (by omega)]
      · rw [up_ne cm, e4' c cm (by omega), F1 c (by omega) (by omega)]
theorem letterings_joint {B : Nat → Nat} {C : Nat → Int32} {d : BD} {rc j : Nat} {xx : Int32} (w : WFd d) (hr : rc ≤ 8) (hj : j < d 0 0) : ∀ (m t f1 f2 : Nat) (acc : Int32) (a1 a2 : Nat) (μ1 μ2 : Mem), t + m = 10 → m < f1 → m < f2 → BKc 8 μ1 (dU d 2 j a1) → RDc μ1 B C rc → BKm μ2 (dU d 2 j a2) → RDm μ2 B C rc →
    ∃ r ν1 ν2, lp_X4_letterings_28 (nI j) f1 acc (nI t) μ1 = some (r, ν1) ∧ lp_X5_letterings_22 (nI j) xx f2 acc (nI t) μ2 = some (r, ν2) ∧ (∀ c, c < 8 ∨ 13 < c → c < 23 ∨ 28 < c → ν1 c = μ1 c) ∧ (∀ c, c ≠ 48 → c < 55 ∨ 57 < c → ν2 c = μ2 c) ∧ (∀ i, i ≠ j → ν2 48 i = μ2 48 i) := by
  have w1 := w.1
  have d00 : ∀ a, dU d 2 j a 0 0 = d 0 0 := fun a => dU_ne (by omega)
  intro m
  induction m with
  | zero =>
    intro t f1 f2 acc a1 a2 μ1 μ2 ht hf1 hf2 hb hR hm hR'
    obtain ⟨f1, rfl⟩ : ∃ m, f1 = m + 1 := ⟨f1 - 1, by omega⟩
    obtain ⟨f2, rfl⟩ : ∃ m, f2 = m + 1 := ⟨f2 - 1, by omega⟩
    have : t = 10 := by omega
    subst this
    exact ⟨acc, μ1, μ2, by rw [lp_X4_letterings_28, if_pos (by decide)], by rw [lp_X5_letterings_22, if_pos (by decide)], fun _ _ _ => rfl, fun _ _ _ => rfl, fun _ _ => rfl⟩
  | succ m ih =>
    intro t f1 f2 acc a1 a2 μ1 μ2 ht hf1 hf2 hb hR hm hR'
    obtain ⟨f1, rfl⟩ : ∃ m, f1 = m + 1 := ⟨f1 - 1, by omega⟩
    obtain ⟨f2, rfl⟩ : ∃ m, f2 = m + 1 := ⟨f2 - 1, by omega⟩
    have wt : WFd (dU d 2 j t) := WFd_i w (by omega) (by omega) (by omega) (by omega)
    have hb' := BKc_i (i := 2) (k := j) (v := t) (by omega) (by omega) hb
    have hm' := BKm_i (i := 2) (k := j) (v := t) (by omega) (by omega) hm
    rw [dU2] at hb' hm'
    have Ra : RDc (up μ1 10 j (nI t)) B C rc := by
      unfold RDc
      rw [up_ne (by omega), up_ne (by omega), up_ne (by omega)]; exact hR
    have Rb : RDm (up μ2 48 j (nI t)) B C rc := by
      unfold RDm
      rw [up_ne (by omega), up_ne (by omega), up_ne (by omega)]; exact hR'
    obtain ⟨v, ν1, k1, k2, k3⟩ := c_rh wt hr Ra hb'
    obtain ⟨v', ν2, g1, g2, g3⟩ := m_as wt hr Rb hm'
    have : v' = v := hv_one g2 k2
    subst this
    have Rc : RDc ν1 B C rc := by
      unfold RDc
      rw [k3 0 (by omega), k3 33 (by omega), k3 34 (by omega)]; exact Ra
    have Rd : RDm ν2 B C rc := by
      unfold RDm
      rw [g3 43 (by omega), g3 62 (by omega), g3 63 (by omega)]; exact Rb
    have Bc : BKc 8 ν1 (dU d 2 j t) := BKc_fr hb' (k3 _ (by omega)) (k3 _ (by omega)) (k3 _ (by omega)) (k3 _ (by omega)) (k3 _ (by omega)) (k3 _ (by omega))
    have Bm : BKm ν2 (dU d 2 j t) := BKm_fr hm' (fun i _ _ => by rw [g3 43 (by omega)]) (fun x _ _ => g3 x (by omega))
    have go : ∀ acc' : Int32, ∃ r ν1' ν2', lp_X4_letterings_28 (nI j) f1 acc' (nI (t + 1)) ν1 = some (r, ν1') ∧ lp_X5_letterings_22 (nI j) xx f2 acc' (nI (t + 1)) ν2 = some (r, ν2') ∧ (∀ c, c < 8 ∨ 13 < c → c < 23 ∨ 28 < c → ν1' c = μ1 c) ∧ (∀ c, c ≠ 48 → c < 55 ∨ 57 < c → ν2' c = μ2 c) ∧ (∀ i, i ≠ j → ν2' 48 i = μ2 48 i) := by
      intro acc'
      obtain ⟨r, ν1', ν2', e1, e2, e3, e4, e5⟩ := ih (t + 1) f1 f2 acc' t t ν1 ν2 (by omega) (by omega) (by omega) Bc Rc Bm Rd
      refine ⟨r, ν1', ν2', e1, e2, fun c h1 h2 => ?_, fun c h1 h2 => ?_, fun i hi => ?_⟩
      · rw [e3 c h1 h2, k3 c h2, up_ne (by omega)]
      · rw [e4 c h1 h2, g3 c h2, up_ne h1]
      · rw [e5 i hi, g3 48 (by omega), up_ot hi]
    rcases k2 with ⟨rfl, _⟩ | ⟨rfl, _⟩
    · obtain ⟨r, ν1', ν2', e1, e2, e3⟩ := go (acc ||| ((1 : Int32) <<< (nI t &&& 31)))
      refine ⟨r, ν1', ν2', ?_, ?_, e3⟩
      · rw [lp_X4_letterings_28, if_neg (show ¬ (9 : Int32) < nI t by rw [l_9, q_lt (by omega) (by omega)]; omega), q_ck (show j < 7 by omega) (by omega), lt_eq, q_cl (by omega)]
        rw [k1, b2_some, if_neg (e10 ▸ not_false), lt_eq, lt_eq, show nI t + 1 = nI (t + 1) from by rw [l_1, q_add], e1]
      · rw [lp_X5_letterings_22, if_neg (show ¬ (9 : Int32) < nI t by rw [l_9, q_lt (by omega) (by omega)]; omega), q_ck (show j < 7 by omega) (by omega), lt_eq, q_cl (by omega)]
        rw [g1, b2_some, if_neg (e10 ▸ not_false), lt_eq, lt_eq, show nI t + 1 = nI (t + 1) from by rw [l_1, q_add], e2]
    · obtain ⟨r, ν1', ν2', e1, e2, e3⟩ := go acc
      refine ⟨r, ν1', ν2', ?_, ?_, e3⟩
      · rw [lp_X4_letterings_28, if_neg (show ¬ (9 : Int32) < nI t by rw [l_9, q_lt (by omega) (by omega)]; omega), q_ck (show j < 7 by omega) (by omega), lt_eq, q_cl (by omega)]
        rw [k1, b2_some, if_pos (e00 ▸ trivial), lt_eq, show nI t + 1 = nI (t + 1) from by rw [l_1, q_add], e1]
      · rw [lp_X5_letterings_22, if_neg (show ¬ (9 : Int32) < nI t by rw [l_9, q_lt (by omega) (by omega)]; omega), q_ck (show j < 7 by omega) (by omega), lt_eq, q_cl (by omega)]
        rw [g1, b2_some, if_pos (e00 ▸ trivial), lt_eq, lt_eq, or0, show nI t + 1 = nI (t + 1) from by rw [l_1, q_add], e2]
theorem t_letterings (x : Int32) (μ : Mem) (h : Inv μ) : ∃ (r : Int32) (μ1 μ2 : Mem), f_X4_letterings x μ = some (r, μ1) ∧ f_X5_letterings x μ1 = some (r, μ2) ∧ Inv μ2 := by
  have hI' := h
  obtain ⟨⟨d, hI⟩, ht, hf⟩ := h
  have w := hI.1
  have hm := hI.2.2.1
  have hb := hI.2.1
  have w1 : d 0 0 < 2147483648 := by have := w.1; omega
  rcases ix7 (x := x) w.1 with hx | ⟨j, hj, rfl⟩
  · exact ⟨-1, μ, μ, by simp only [f_X4_letterings, c_hasLeft_n hb.1 hx, b2_some, e00, if_true], by simp only [f_X5_letterings, m_isLeft_n hm.1 hx, b2_some, e00, if_true], hI'⟩
  · have hj7 : j < 7 := by have := w.1; omega
    obtain ⟨rc, r1, r2, r3, r4⟩ := hI.2.2.2.2.2
    obtain ⟨μa, a0, a1, a2⟩ := c_becomeLike (q0 := 8) (q1 := 2) w (by omega) hb
    have Ra : RDc μa (fun k => (μ 33 k).toNatClampNeg) (fun k => μ 34 k) rc := by
      unfold RDc
      rw [a2 0 (by omega), a2 33 (by omega), a2 34 (by omega)]
      refine ⟨r2, fun k hk => ?_⟩
      obtain ⟨_, _, v, v1, v2⟩ := r4 k hk
      have vv : (μ 33 k).toNatClampNeg = v := by rw [v2, q_cl (by omega)]
      exact ⟨by show μ 33 k = nI (μ 33 k).toNatClampNeg; rw [vv, v2], rfl, by show (μ 33 k).toNatClampNeg ≤ 7; omega⟩
    have Rb : RDm μ (fun k => (μ 33 k).toNatClampNeg) (fun k => μ 34 k) rc := by
      refine ⟨r3, fun k hk => ?_⟩
      obtain ⟨u1, u2, v, v1, v2⟩ := r4 k hk
      have vv : (μ 33 k).toNatClampNeg = v := by rw [v2, q_cl (by omega)]
      exact ⟨by show μ 62 k = nI (μ 33 k).toNatClampNeg; rw [vv, ← u1, v2], u2.symm, by show (μ 33 k).toNatClampNeg ≤ 7; omega⟩
    rw [← dU_s d 2 j] at a1
    have hm0 := hm
    rw [← dU_s d 2 j] at hm
    obtain ⟨k1, k2, k3⟩ := hm0.2.2.2.2.2.1 j hj
    obtain ⟨r, ν1, ν2, e1, e2, e3, e4, e5⟩ := letterings_joint (xx := nI (d 2 j)) w r1 hj 9 1 FU FU 0 (d 2 j) (d 2 j) μa μ (by omega) (by unfold FU; omega) (by unfold FU; omega) a1 Ra hm Rb
    -- the model's loop runs behind the class's: on ν1, not on μ
    have F1 : ∀ c, c < 8 ∨ 13 < c → c < 23 ∨ 28 < c → ν1 c = μ c := fun c h1 h2 => by rw [e3 c h1 h2, a2 c (by omega)]
    have hm1 : BKm ν1 (dU d 2 j (d 2 j)) := BKm_fr hm (fun i _ _ => by rw [F1 43 (by omega) (by omega)]) (fun x _ _ => F1 x (by omega) (by omega))
    have Rb1 : RDm ν1 (fun k => (μ 33 k).toNatClampNeg) (fun k => μ 34 k) rc := by
      unfold RDm
      rw [F1 43 (by omega) (by omega), F1 62 (by omega) (by omega), F1 63 (by omega) (by omega)]; exact Rb
    obtain ⟨r', ν1', ν3, e1', e2', e3', e4', e5'⟩ := letterings_joint (xx := nI (d 2 j)) w r1 hj 9 1 FU FU 0 (d 2 j) (d 2 j) μa ν1 (by omega) (by unfold FU; omega) (by unfold FU; omega) a1 Ra hm1 Rb1
    rw [e1] at e1'
    have : r = r' := by injection e1' with e1'; injection e1'
    subst this
    refine ⟨r, ν1, up ν3 48 j (nI (d 2 j)), ?_, ?_, Inv_23 hI' (fun c hc => ?_)⟩
    · rw [show nI 1 = (1 : Int32) from rfl] at e1
      simp only [f_X4_letterings, c_hasLeft_y hb.1 w1 hj, b2_some, e10, if_false, a0, b1_some, e1]
    · rw [show nI 1 = (1 : Int32) from rfl] at e2'
      have q5 : ν1 43 5 = nI (d 0 0) := by rw [F1 43 (by omega) (by omega)]; exact hm0.1
      have q7 : ν1 48 j = nI (d 2 j) := by rw [F1 48 (by omega) (by omega)]; exact k2
      simp (disch := omega) only [f_X5_letterings, m_isLeft_y q5 w1 hj, b2_some, e10, if_false, q_ck, lt_eq, q_cl, q7, e2']
    · by_cases cm : c = 48
      · subst cm
        funext i
        by_cases ci : i = j
        · subst ci; rw [up_at]; exact k2.symm
        · rw [up_ot ci, e5' i ci, F1 48 (by omega) (by omega)]
      · rw [up_ne cm, e4' c cm (by omega), F1 c (by omega) (by omega)]
