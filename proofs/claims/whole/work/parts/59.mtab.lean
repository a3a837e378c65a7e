theorem l_f : (99999 : Int32) = nI 99999 := rfl
def mo (x : Nat) : Nat := if x = 1000000 then 99999 else x
theorem mR_mo {x y : Nat} (h : mR x y) : y = mo x := by
  unfold mR at h
  unfold mo
  split <;> omega
theorem mo_mR {x : Nat} (h : x = 1000000 ∨ x < 90000) : mR x (mo x) := by
  unfold mR mo
  split <;> omega
theorem mo_le {x : Nat} (h : x = 1000000 ∨ x < 90000) : mo x ≤ 99999 := by
  unfold mo
  split <;> omega
theorem m_isStand {a b w : Nat} {μ : Mem} {d : BD} (h : BKm μ d) (wf : WFd d) (ha : a ≤ 20) (hb : b ≤ 20) (hw : w ≤ 7) : f_X5_isStand (nI a) (nI b) (nI w) μ = some (nI (if (a ≤ d 0 0 ∧ b ≤ d 0 1) ∧ (a ≤ b + w ∧ b ≤ a + w) then 1 else 0), μ) := by
  have w1 := wf.1
  have w2 := wf.2.1
  obtain ⟨h1, h2, -⟩ := h
  have e1 : ∀ x y : Nat, x ≤ 20 → y ≤ 20 → (nI w < nI x - nI y) = (y + w < x) := by
    intro x y hx hy
    apply propext
    rw [fa_lt, pk_sub_toInt (by omega) (by omega), nI_toInt (by omega)]
    omega
  simp (disch := omega) only [f_X5_isStand, h1, h2, q_lt, e1, l_0, l_1]
  (repeat' split) <;> first | rfl | omega
theorem m_comes {h c k x1 x2 x3 : Nat} {μ : Mem} (hh : h < 64) (hc : c < 1000000000) (hk : k < 1000000000) (b1 : x1 < 1000000000) (b2 : x2 < 1000000000) (b3 : x3 < 1000000000) (e1 : μ 55 h = nI x1) (e2 : μ 56 h = nI x2) (e3 : μ 57 h = nI x3) :
    ∃ μ', f_X5_comes (nI h) (nI c) (nI k) μ = some μ' ∧ (∀ i, i < 55 ∨ 57 < i → μ' i = μ i) ∧ (∀ i, i ≠ h → μ' 55 i = μ 55 i ∧ μ' 56 i = μ 56 i ∧ μ' 57 i = μ 57 i) ∧ μ' 55 h = nI (cms (x1, x2, x3) c k).1 ∧ μ' 56 h = nI (cms (x1, x2, x3) c k).2.1 ∧ μ' 57 h = nI (cms (x1, x2, x3) c k).2.2 := by
  unfold cms
  simp only
  by_cases c1 : 99999 ≤ c
  · rw [if_pos c1]
    refine ⟨μ, ?_, fun _ _ => rfl, fun _ _ => ⟨rfl, rfl, rfl⟩, e1, e2, e3⟩
    simp (disch := omega) only [f_X5_comes, l_f, q_lt, show ¬ c < 99999 by omega, if_false]
  · rw [if_neg c1]
    by_cases c2 : c < x1
    · rw [if_pos c2]
      refine ⟨up (up (up μ 56 h (nI x1)) 55 h (nI c)) 57 h (nI k), ?_, fun i hi => by rw [up_ne (by omega), up_ne (by omega), up_ne (by omega)], fun i hi => ⟨?_, ?_, ?_⟩, ?_, ?_, ?_⟩
      · simp (disch := omega) only [f_X5_comes, l_f, q_lt, show c < 99999 by omega, if_true, q_ck, q_cl, e1, q_le, show ¬ x1 ≤ c by omega, if_false, lt_eq]
      · rw [up_ne (by omega), up_ot hi, up_ne (by omega)]
      · rw [up_ne (by omega), up_ne (by omega), up_ot hi]
      · rw [up_ot hi, up_ne (by omega), up_ne (by omega)]
      · rw [up_ne (by omega), up_at]
      · rw [up_ne (by omega), up_ne (by omega), up_at]
      · rw [up_at]
    · rw [if_neg c2]
      by_cases c3 : c = x1
      · rw [if_pos c3]
        refine ⟨up (up μ 57 h (nI (x3 + k))) 56 h (nI c), ?_, fun i hi => by rw [up_ne (by omega), up_ne (by omega)], fun i hi => ⟨?_, ?_, ?_⟩, ?_, ?_, ?_⟩
        · simp (disch := omega) only [f_X5_comes, l_f, q_lt, show c < 99999 by omega, if_true, q_ck, q_cl, e1, q_le, show x1 ≤ c by omega, q_eq, show (c = x1) = True from eq_true c3, e3, q_add, lt_eq]
        · rw [up_ne (by omega), up_ne (by omega)]
        · rw [up_ot hi, up_ne (by omega)]
        · rw [up_ne (by omega), up_ot hi]
        · rw [up_ne (by omega), up_ne (by omega)]; exact e1
        · rw [up_at]
        · rw [up_ne (by omega), up_at]
      · rw [if_neg c3]
        by_cases c4 : c < x2
        · rw [if_pos c4]
          refine ⟨up μ 56 h (nI c), ?_, fun i hi => by rw [up_ne (by omega)], fun i hi => ⟨?_, ?_, ?_⟩, ?_, ?_, ?_⟩
          · simp (disch := omega) only [f_X5_comes, l_f, q_lt, show c < 99999 by omega, if_true, q_ck, q_cl, e1, q_le, show x1 ≤ c by omega, q_eq, c3, if_false, e2, show ¬ x2 ≤ c by omega, lt_eq]
          · rw [up_ne (by omega)]
          · rw [up_ot hi]
          · rw [up_ne (by omega)]
          · rw [up_ne (by omega)]; exact e1
          · rw [up_at]
          · rw [up_ne (by omega)]; exact e3
        · rw [if_neg c4]
          refine ⟨μ, ?_, fun _ _ => rfl, fun _ _ => ⟨rfl, rfl, rfl⟩, e1, e2, e3⟩
          simp (disch := omega) only [f_X5_comes, l_f, q_lt, show c < 99999 by omega, if_true, q_ck, q_cl, e1, q_le, show x1 ≤ c by omega, q_eq, c3, if_false, e2, show x2 ≤ c by omega]
theorem cms_le {x : Nat × Nat × Nat} {c k : Nat} (h1 : x.1 ≤ 99999) (h2 : x.2.1 ≤ 99999) : (cms x c k).1 ≤ 99999 ∧ (cms x c k).2.1 ≤ 99999 ∧ (cms x c k).2.2 ≤ x.2.2 + k := by
  obtain ⟨x1, x2, x3⟩ := x
  unfold cms
  simp only at *
  (repeat' split) <;> simp only <;> omega
def MS (μ : Mem) (d : BD) (w a b : Nat) : Prop := μ 55 (8 * a + b) = nI (mo (VV d w a b).1) ∧ μ 56 (8 * a + b) = nI (mo (VV d w a b).2.1) ∧ μ 57 (8 * a + b) = nI (VV d w a b).2.2.1
theorem VV_rng {d : BD} {w a b : Nat} (wf : WFd d) (ha : a ≤ d 0 0) (hb : b ≤ d 0 1) : ((VV d w a b).1 = 1000000 ∨ (VV d w a b).1 < 90000) ∧ ((VV d w a b).2.1 = 1000000 ∨ (VV d w a b).2.1 < 90000) ∧ (VV d w a b).2.2.1 ≤ 4782969 := by
  have w1 := wf.1
  have w2 := wf.2.1
  have hg := VV_Gd (w := w) wf _ a b ha hb rfl
  have hp : 3 ^ ((d 0 0 - a) + (d 0 1 - b)) ≤ 3 ^ 14 := Nat.pow_le_pow_right (by decide) (by omega)
  have hp2 : (3 : Nat) ^ 14 = 4782969 := by decide
  rcases hg with z | z
  · omega
  · have z1 := z.1
    have z2 := z.2.1
    have z3 := z.2.2.1
    omega
theorem m_fs81 {a b w : Nat} {d : BD} (wf : WFd d) (hw : w ≤ 7) (ha : a ≤ d 0 0) (hb : b ≤ d 0 1) : ∀ (k n f : Nat) (μ : Mem) (x : Nat × Nat × Nat), n + k = 5 → k < f → BKm μ d → (∀ s, s < 5 → avl d s a b → MS μ d w (a + dl s) (b + dr s)) → Rm (fdq d (VV d w) a b n) x → x.1 ≤ 99999 → x.2.1 ≤ 99999 → x.2.2 ≤ 5000000 * n → μ 55 (8 * a + b) = nI x.1 → μ 56 (8 * a + b) = nI x.2.1 → μ 57 (8 * a + b) = nI x.2.2 →
    ∃ μ' y, lp_X5_findStand_81 (nI a) (nI b) (nI w) (nI (8 * a + b)) f (nI n) μ = some μ' ∧ (∀ i, i < 55 ∨ 57 < i → μ' i = μ i) ∧ (∀ i, i ≠ 8 * a + b → μ' 55 i = μ 55 i ∧ μ' 56 i = μ 56 i ∧ μ' 57 i = μ 57 i) ∧ Rm (fdq d (VV d w) a b 5) y ∧ y.1 ≤ 99999 ∧ y.2.1 ≤ 99999 ∧ y.2.2 ≤ 25000000 ∧ μ' 55 (8 * a + b) = nI y.1 ∧ μ' 56 (8 * a + b) = nI y.2.1 ∧ μ' 57 (8 * a + b) = nI y.2.2 := by
  have w1 := wf.1
  have w2 := wf.2.1
  have htg : TG d (VV d w) a b ((d 0 0 - a) + (d 0 1 - b)) := by
    intro s hs hv
    have := dlr s hs
    have hv1 := hv.1
    have hv2 := hv.2
    exact ⟨(d 0 0 - (a + dl s)) + (d 0 1 - (b + dr s)), _, by omega, VV_Gd wf _ _ _ hv.1 hv.2 rfl⟩
  intro k
  induction k with
  | zero =>
    intro n f μ x hs hf hbk hms hr hx1 hx2 hx3 e1 e2 e3
    obtain ⟨f, rfl⟩ : ∃ m, f = m + 1 := ⟨f - 1, by omega⟩
    have : n = 5 := by omega
    subst this
    refine ⟨μ, x, ?_, fun _ _ => rfl, fun _ _ => ⟨rfl, rfl, rfl⟩, hr, hx1, hx2, by omega, e1, e2, e3⟩
    simp (disch := omega) only [lp_X5_findStand_81, l_5, Nat.le_refl, q_le, if_true]
  | succ k ih =>
    intro n f μ x hs hf hbk hms hr hx1 hx2 hx3 e1 e2 e3
    obtain ⟨f, rfl⟩ : ∃ m, f = m + 1 := ⟨f - 1, by omega⟩
    have hn5 : n < 5 := by omega
    have hd1 := dl_le n
    have hd2 := dr_le n
    have hd3 := dlr n hn5
    have hq : fdq d (VV d w) a b (n + 1) = itq d (VV d w) a b (fdq d (VV d w) a b n) n := rfl
    have hst := m_isStand (a := a + dl n) (b := b + dr n) (w := w) hbk wf (by omega) (by omega) hw
    by_cases hv : a + dl n ≤ d 0 0 ∧ b + dr n ≤ d 0 1
    · have hv1 := hv.1
      have hv2 := hv.2
      have hit : fdq d (VV d w) a b (n + 1) = addq (fdq d (VV d w) a b n) n (cst d n a b + (VV d w (a + dl n) (b + dr n)).1) (cpn (cst d n a b) (VV d w (a + dl n) (b + dr n)).2.1) (VV d w (a + dl n) (b + dr n)).2.2.1 := by
        rw [hq]
        unfold itq
        rw [if_pos hv]
      by_cases hi : a + dl n ≤ b + dr n + w ∧ b + dr n ≤ a + dl n + w
      · rw [if_pos ⟨hv, hi⟩] at hst
        obtain ⟨r1, r2, r3⟩ := VV_rng (w := w) wf hv1 hv2
        obtain ⟨m1, m2, m3⟩ := hms n hn5 hv
        obtain ⟨m', S', t1, t2⟩ := htg n hn5 hv
        obtain ⟨S, g1⟩ := fdq_Gd2 wf (by omega) htg n (by omega)
        have hc := cst_le wf hn5 hv
        have hra := Rm_add (s := n) (by omega) g1 t2 hc t1 (mo_mR r1) (mo_mR r2) hr
        rw [← hit] at hra
        have q1 := mo_le r1
        have q2 := mo_le r2
        have hpl : 8 * (a + dl n) + (b + dr n) ≠ 8 * a + b := by omega
        generalize VV d w (a + dl n) (b + dr n) = t at *
        obtain ⟨μ1, a1, a2, a3, a4, a5, a6⟩ := m_comes (h := 8 * a + b) (c := cst d n a b + mo t.1) (k := t.2.2.1) (μ := μ) (by omega) (by omega) (by omega) (by omega) (by omega) (by omega) e1 e2 e3
        obtain ⟨l1, l2, l3⟩ := cms_le (x := (x.1, x.2.1, x.2.2)) (c := cst d n a b + mo t.1) (k := t.2.2.1) hx1 hx2
        generalize hz : cms (x.1, x.2.1, x.2.2) (cst d n a b + mo t.1) t.2.2.1 = z at *
        simp only at l1 l2 l3
        obtain ⟨b1, b2, b3⟩ := a3 _ hpl
        have hcc : (if mo t.2.1 = mo t.1 then 99999 else cst d n a b + mo t.2.1) < 1000000000 := by split <;> omega
        obtain ⟨μ2, c1, c2, c3, c4, c5, c6⟩ := m_comes (h := 8 * a + b) (c := if mo t.2.1 = mo t.1 then 99999 else cst d n a b + mo t.2.1) (k := 1) (μ := μ1) (by omega) hcc (by omega) (by omega) (by omega) (by omega) a4 a5 a6
        obtain ⟨o1, o2, o3⟩ := cms_le (x := z) (c := if mo t.2.1 = mo t.1 then 99999 else cst d n a b + mo t.2.1) (k := 1) l1 l2
        have hzz : (z.1, z.2.1, z.2.2) = z := rfl
        rw [hzz] at c4 c5 c6
        generalize hy : cms z (if mo t.2.1 = mo t.1 then 99999 else cst d n a b + mo t.2.1) 1 = y at *
        have hfr : ∀ i, i < 55 ∨ 57 < i → μ2 i = μ i := fun i hi => (c2 i hi).trans (a2 i hi)
        have hfr2 : ∀ i, i ≠ 8 * a + b → μ2 55 i = μ 55 i ∧ μ2 56 i = μ 56 i ∧ μ2 57 i = μ 57 i := fun i hi => ⟨(c3 i hi).1.trans (a3 i hi).1, (c3 i hi).2.1.trans (a3 i hi).2.1, (c3 i hi).2.2.trans (a3 i hi).2.2⟩
        have hbk1 : BKm μ1 d := BKm_fr hbk (fun i _ _ => by rw [a2 43 (by omega)]) (fun c x y => a2 c (by omega))
        have hcost : f_X5_costOf (nI n) (nI a) (nI b) μ = some (nI (cst d n a b), μ) := m_costOf hbk wf hn5 hv
        obtain ⟨μ', y', g1, g2, g3, g4⟩ := ih (n + 1) f μ2 y (by omega) (by omega) (BKm_fr hbk (fun i _ _ => by rw [hfr 43 (by omega)]) (fun c x y => hfr c (by omega)))
          (fun s x y => by
            have y1 := y.1
            have y2 := y.2
            have := dlr s x
            have hne : 8 * (a + dl s) + (b + dr s) ≠ 8 * a + b := by omega
            obtain ⟨z1, z2, z3⟩ := hfr2 _ hne
            unfold MS
            rw [z1, z2, z3]
            exact hms s x y) hra o1 o2 (by omega) c4 c5 c6
        refine ⟨μ', y', ?_, fun i hi => (g2 i hi).trans (hfr i hi), fun i hi => ⟨(g3 i hi).1.trans (hfr2 i hi).1, (g3 i hi).2.1.trans (hfr2 i hi).2.1, (g3 i hi).2.2.trans (hfr2 i hi).2.2⟩, g4⟩
        rw [← g1]
        by_cases hee : mo t.2.1 = mo t.1
        · rw [if_pos hee] at c1
          simp (disch := omega) only [lp_X5_findStand_81, l_5, q_le, show ¬ 5 ≤ n by omega, if_false, m_leftsOf, m_rightsOf, b2_some, lt_eq, q_add, hst, l_0, q_eq, Nat.reduceEqDiff, l_8, q_mul, hcost, q_ck, q_cl, m1, m3, a1, b1_some, b2, b1, m2, hee, if_true, l_f, l_1, c1]
        · rw [if_neg hee] at c1
          simp (disch := omega) only [lp_X5_findStand_81, l_5, q_le, show ¬ 5 ≤ n by omega, if_false, m_leftsOf, m_rightsOf, b2_some, lt_eq, q_add, hst, l_0, q_eq, Nat.reduceEqDiff, l_8, q_mul, hcost, q_ck, q_cl, m1, m3, a1, b1_some, b2, b1, m2, hee, l_1, c1]
      · rw [if_neg (fun z => hi z.2)] at hst
        have hvz : (VV d w (a + dl n) (b + dr n)).1 = 1000000 := by
          have z := VV_1 (w := w) wf hv1 hv2
          rw [if_neg hi] at z
          exact z
        have hsame : fdq d (VV d w) a b (n + 1) = fdq d (VV d w) a b n := by
          rw [hit]
          unfold addq
          rw [if_pos (by omega)]
        obtain ⟨μ', y', g1, g2⟩ := ih (n + 1) f μ x (by omega) (by omega) hbk hms (by rw [hsame]; exact hr) hx1 hx2 (by omega) e1 e2 e3
        refine ⟨μ', y', ?_, g2⟩
        rw [← g1]
        simp (disch := omega) only [lp_X5_findStand_81, l_5, q_le, show ¬ 5 ≤ n by omega, if_false, m_leftsOf, m_rightsOf, b2_some, lt_eq, q_add, hst, l_0, if_true, l_1]
    · rw [if_neg (fun z => hv z.1)] at hst
      have hsame : fdq d (VV d w) a b (n + 1) = fdq d (VV d w) a b n := by
        rw [hq]
        unfold itq
        rw [if_neg hv]
      obtain ⟨μ', y', g1, g2⟩ := ih (n + 1) f μ x (by omega) (by omega) hbk hms (by rw [hsame]; exact hr) hx1 hx2 (by omega) e1 e2 e3
      refine ⟨μ', y', ?_, g2⟩
      rw [← g1]
      simp (disch := omega) only [lp_X5_findStand_81, l_5, q_le, show ¬ 5 ≤ n by omega, if_false, m_leftsOf, m_rightsOf, b2_some, lt_eq, q_add, hst, l_0, if_true, l_1]
theorem m_findStand {a b w : Nat} {d : BD} {μ : Mem} (wf : WFd d) (hw : w ≤ 7) (ha : a ≤ d 0 0) (hb : b ≤ d 0 1) (hbk : BKm μ d) (hms : ∀ s, s < 5 → avl d s a b → MS μ d w (a + dl s) (b + dr s)) :
    ∃ μ', f_X5_findStand (nI a) (nI b) (nI w) μ = some μ' ∧ (∀ i, i < 55 ∨ 57 < i → μ' i = μ i) ∧ (∀ i, i ≠ 8 * a + b → μ' 55 i = μ 55 i ∧ μ' 56 i = μ 56 i ∧ μ' 57 i = μ 57 i) ∧ MS μ' d w a b := by
  have w1 := wf.1
  have w2 := wf.2.1
  have fr : ∀ i, i < 55 ∨ 57 < i → (up (up (up μ 55 (8 * a + b) (nI 99999)) 56 (8 * a + b) (nI 99999)) 57 (8 * a + b) (nI 0)) i = μ i := fun i hi => by rw [up_ne (by omega), up_ne (by omega), up_ne (by omega)]
  have fr2 : ∀ i, i ≠ 8 * a + b → (up (up (up μ 55 (8 * a + b) (nI 99999)) 56 (8 * a + b) (nI 99999)) 57 (8 * a + b) (nI 0)) 55 i = μ 55 i ∧ (up (up (up μ 55 (8 * a + b) (nI 99999)) 56 (8 * a + b) (nI 99999)) 57 (8 * a + b) (nI 0)) 56 i = μ 56 i ∧ (up (up (up μ 55 (8 * a + b) (nI 99999)) 56 (8 * a + b) (nI 99999)) 57 (8 * a + b) (nI 0)) 57 i = μ 57 i := fun i hi => ⟨by rw [up_ne (by omega), up_ne (by omega), up_ot hi], by rw [up_ne (by omega), up_ot hi, up_ne (by omega)], by rw [up_ot hi, up_ne (by omega), up_ne (by omega)]⟩
  have v1 : (up (up (up μ 55 (8 * a + b) (nI 99999)) 56 (8 * a + b) (nI 99999)) 57 (8 * a + b) (nI 0)) 55 (8 * a + b) = nI 99999 := by rw [up_ne (by omega), up_ne (by omega), up_at]
  have v2 : (up (up (up μ 55 (8 * a + b) (nI 99999)) 56 (8 * a + b) (nI 99999)) 57 (8 * a + b) (nI 0)) 56 (8 * a + b) = nI 99999 := by rw [up_ne (by omega), up_at]
  have v3 : (up (up (up μ 55 (8 * a + b) (nI 99999)) 56 (8 * a + b) (nI 99999)) 57 (8 * a + b) (nI 0)) 57 (8 * a + b) = nI 0 := by rw [up_at]
  have hx : f_X5_findStand (nI a) (nI b) (nI w) μ = b2 (f_X5_isStand (nI a) (nI b) (nI w) (up (up (up μ 55 (8 * a + b) (nI 99999)) 56 (8 * a + b) (nI 99999)) 57 (8 * a + b) (nI 0))) (fun x6 μ5 => if x6 = nI 0 then some μ5 else if nI a = μ5 43 5 then (if nI b = μ5 43 6 then some (up (up μ5 55 (8 * a + b) (nI 0)) 57 (8 * a + b) (nI 1)) else jn_X5_findStand_78 (nI a) (nI b) (nI w) (nI (8 * a + b)) μ5) else jn_X5_findStand_78 (nI a) (nI b) (nI w) (nI (8 * a + b)) μ5) := by
    simp (disch := omega) only [f_X5_findStand, l_8, q_mul, q_add, lt_eq, q_ck, q_cl, l_f, l_0, l_1]
  rw [hx]
  clear hx
  generalize up (up (up μ 55 (8 * a + b) (nI 99999)) 56 (8 * a + b) (nI 99999)) 57 (8 * a + b) (nI 0) = ν at *
  have hbk1 : BKm ν d := BKm_fr hbk (fun i _ _ => by rw [fr 43 (by omega)]) (fun c x y => fr c (by omega))
  have hsd := m_isStand (a := a) (b := b) hbk1 wf (by omega) (by omega) hw
  by_cases hi : a ≤ b + w ∧ b ≤ a + w
  · rw [if_pos ⟨⟨ha, hb⟩, hi⟩] at hsd
    rw [hsd, b2_some, if_neg (nz (by omega) (by omega)), hbk1.1, hbk1.2.1]
    have hmain : ¬ (a = d 0 0 ∧ b = d 0 1) → ∃ μ', jn_X5_findStand_78 (nI a) (nI b) (nI w) (nI (8 * a + b)) ν = some μ' ∧ (∀ i, i < 55 ∨ 57 < i → μ' i = μ i) ∧ (∀ i, i ≠ 8 * a + b → μ' 55 i = μ 55 i ∧ μ' 56 i = μ 56 i ∧ μ' 57 i = μ 57 i) ∧ MS μ' d w a b := by
      intro he
      have hF := VV_F wf ha hb hi he
      obtain ⟨μ1, y, g1, g2, g3, g4, g5, g6, g7, g8, g9, g10⟩ := m_fs81 (a := a) (b := b) (w := w) wf hw ha hb 5 0 FU ν (99999, 99999, 0) rfl (by decide) hbk1 (fun s x y => by
        have y1 := y.1
        have y2 := y.2
        have := dlr s x
        have hne : 8 * (a + dl s) + (b + dr s) ≠ 8 * a + b := by omega
        obtain ⟨z1, z2, z3⟩ := fr2 _ hne
        unfold MS
        rw [z1, z2, z3]
        exact hms s x y) ⟨Or.inl ⟨rfl, rfl⟩, rfl, fun _ => Or.inl ⟨rfl, rfl⟩⟩ (Nat.le_refl _) (Nat.le_refl _) (Nat.zero_le _) v1 v2 v3
      obtain ⟨r1, r2, r3⟩ := g4
      rw [← hF] at r1 r2 r3
      have hG := VV_Gd (w := w) wf _ a b ha hb rfl
      have hm1 := mR_mo r1
      by_cases hA : y.2.2 ≤ 1
      · have hm2 := mR_mo (r3 (by omega))
        refine ⟨up μ1 56 (8 * a + b) (nI y.2.1), ?_, fun i hi => by rw [up_ne (by omega), g2 i hi, fr i hi], fun i hi => ⟨?_, ?_, ?_⟩, ?_, ?_, ?_⟩
        · simp (disch := omega) only [jn_X5_findStand_78, l_0, g1, b1_some, q_ck, q_cl, g10, l_1, q_le, hA, if_true, g9, lt_eq]
        · rw [up_ne (by omega), (g3 i hi).1, (fr2 i hi).1]
        · rw [up_ot hi, (g3 i hi).2.1, (fr2 i hi).2.1]
        · rw [up_ne (by omega), (g3 i hi).2.2, (fr2 i hi).2.2]
        · rw [up_ne (by omega), g8, hm1]
        · rw [up_at, hm2]
        · rw [up_ne (by omega), g10, r2]
      · have hNL : (VV d w a b).2.1 = (VV d w a b).1 := by
          rcases hG with z | z
          · omega
          · rcases z.2.2.2 with q | q
            · omega
            · exact q.2
        refine ⟨up μ1 56 (8 * a + b) (nI y.1), ?_, fun i hi => by rw [up_ne (by omega), g2 i hi, fr i hi], fun i hi => ⟨?_, ?_, ?_⟩, ?_, ?_, ?_⟩
        · simp (disch := omega) only [jn_X5_findStand_78, l_0, g1, b1_some, q_ck, q_cl, g10, l_1, q_le, hA, if_false, g8, lt_eq]
        · rw [up_ne (by omega), (g3 i hi).1, (fr2 i hi).1]
        · rw [up_ot hi, (g3 i hi).2.1, (fr2 i hi).2.1]
        · rw [up_ne (by omega), (g3 i hi).2.2, (fr2 i hi).2.2]
        · rw [up_ne (by omega), g8, hm1]
        · rw [up_at, hm1, hNL]
        · rw [up_ne (by omega), g10, r2]
    by_cases ea : a = d 0 0
    · rw [if_pos (by rw [ea])]
      by_cases eb : b = d 0 1
      · rw [if_pos (by rw [eb])]
        have hve : VV d w a b = (0, 1000000, 1, 0) := by
          rw [VV_eq wf ha hb]
          unfold stq
          rw [if_pos hi, if_pos ⟨ea, eb⟩]
        refine ⟨_, rfl, fun i hi => by rw [up_ne (by omega), up_ne (by omega), fr i hi], fun i hi => ⟨?_, ?_, ?_⟩, ?_⟩
        · rw [up_ne (by omega), up_ot hi, (fr2 i hi).1]
        · rw [up_ne (by omega), up_ne (by omega), (fr2 i hi).2.1]
        · rw [up_ot hi, up_ne (by omega), (fr2 i hi).2.2]
        · unfold MS
          rw [hve]
          refine ⟨?_, ?_, ?_⟩
          · rw [up_ne (by omega), up_at]; rfl
          · rw [up_ne (by omega), up_ne (by omega), v2]; rfl
          · rw [up_at]
      · rw [if_neg (by rw [nI_eq (by omega) (by omega)]; exact eb)]
        exact hmain (fun z => eb z.2)
    · rw [if_neg (by rw [nI_eq (by omega) (by omega)]; exact ea)]
      exact hmain (fun z => ea z.1)
  · rw [if_neg (fun z => hi z.2)] at hsd
    rw [hsd, b2_some, if_pos rfl]
    have hvz : VV d w a b = q0 := by
      rw [VV_eq wf ha hb]
      unfold stq
      rw [if_neg hi]
    refine ⟨ν, rfl, fr, fr2, ?_⟩
    unfold MS
    rw [hvz]
    exact ⟨v1, v2, v3⟩
theorem m_fa14 {a w : Nat} {d : BD} (wf : WFd d) (hw : w ≤ 7) (ha : a ≤ d 0 0) : ∀ (j f : Nat) (μ : Mem), j ≤ d 0 1 + 1 → j < f → BKm μ d → (∀ a' b', a' ≤ d 0 0 → b' ≤ d 0 1 → (a < a' ∨ (a' = a ∧ j ≤ b')) → MS μ d w a' b') →
    ∃ μ', lp_X5_findAll_14 (nI w) (nI a) f (dn j) μ = some μ' ∧ (∀ i, i < 55 ∨ 57 < i → μ' i = μ i) ∧ (∀ a' b', a' ≤ d 0 0 → b' ≤ d 0 1 → a ≤ a' → MS μ' d w a' b') := by
  have w1 := wf.1
  have w2 := wf.2.1
  intro j
  induction j with
  | zero =>
    intro f μ hj hf hbk hd
    obtain ⟨f, rfl⟩ : ∃ m, f = m + 1 := ⟨f - 1, by omega⟩
    refine ⟨μ, ?_, fun _ _ => rfl, fun a' b' x y z => hd a' b' x y (by omega)⟩
    simp only [lp_X5_findAll_14, dn_neg, if_true]
  | succ b ih =>
    intro f μ hj hf hbk hd
    obtain ⟨f, rfl⟩ : ∃ m, f = m + 1 := ⟨f - 1, by omega⟩
    obtain ⟨μ1, e1, e2, e3, e4⟩ := m_findStand (a := a) (b := b) (w := w) wf hw ha (by omega) hbk (fun s hs hv => by
      have := dlr s hs
      exact hd _ _ hv.1 hv.2 (by omega))
    obtain ⟨μ', f1, f2, f3⟩ := ih f μ1 (by omega) (by omega) (BKm_fr hbk (fun i _ _ => by rw [e2 43 (by omega)]) (fun c x y => e2 c (by omega))) (fun a' b' x y z => by
      by_cases hz : a' = a ∧ b' = b
      · obtain ⟨rfl, rfl⟩ := hz
        exact e4
      · have hne : 8 * a' + b' ≠ 8 * a + b := by omega
        obtain ⟨z1, z2, z3⟩ := e3 _ hne
        unfold MS
        rw [z1, z2, z3]
        exact hd a' b' x y (by omega))
    have hdn : dn (b + 1) = nI b := rfl
    have hnp : ¬ nI b < 0 := nI_pos (by omega)
    refine ⟨μ', ?_, fun i hi => (f2 i hi).trans (e2 i hi), f3⟩
    rw [← f1, hdn]
    simp (disch := omega) only [lp_X5_findAll_14, hnp, if_false, e1, b1_some, lt_eq, dn_dec]
theorem m_fa5 {w : Nat} {d : BD} (wf : WFd d) (hw : w ≤ 7) : ∀ (i f : Nat) (μ : Mem), i ≤ d 0 0 + 1 → i < f → BKm μ d → (∀ a' b', a' ≤ d 0 0 → b' ≤ d 0 1 → i ≤ a' → MS μ d w a' b') →
    ∃ μ', lp_X5_findAll_5 (nI w) f (dn i) μ = some μ' ∧ (∀ i, i < 55 ∨ 57 < i → μ' i = μ i) ∧ (∀ a' b', a' ≤ d 0 0 → b' ≤ d 0 1 → MS μ' d w a' b') := by
  have w1 := wf.1
  have w2 := wf.2.1
  intro i
  induction i with
  | zero =>
    intro f μ hj hf hbk hd
    obtain ⟨f, rfl⟩ : ∃ m, f = m + 1 := ⟨f - 1, by omega⟩
    refine ⟨μ, ?_, fun _ _ => rfl, fun a' b' x y => hd a' b' x y (by omega)⟩
    simp only [lp_X5_findAll_5, dn_neg, if_true]
  | succ a ih =>
    intro f μ hj hf hbk hd
    obtain ⟨f, rfl⟩ : ∃ m, f = m + 1 := ⟨f - 1, by omega⟩
    obtain ⟨μ1, e1, e2, e3⟩ := m_fa14 (a := a) (w := w) wf hw (by omega) (d 0 1 + 1) FU μ (Nat.le_refl _) (by unfold FU; omega) hbk (fun a' b' x y z => hd a' b' x y (by omega))
    obtain ⟨μ', f1, f2, f3⟩ := ih f μ1 (by omega) (by omega) (BKm_fr hbk (fun i _ _ => by rw [e2 43 (by omega)]) (fun c x y => e2 c (by omega))) (fun a' b' x y z => e3 a' b' x y (by omega))
    have hdn : dn (a + 1) = nI a := rfl
    have hdr : dn (d 0 1 + 1) = nI (d 0 1) := rfl
    rw [hdr] at e1
    have hnp : ¬ nI a < 0 := nI_pos (by omega)
    refine ⟨μ', ?_, fun i hi => (f2 i hi).trans (e2 i hi), f3⟩
    rw [← f1, hdn]
    have h9 := hbk.2.1
    simp (disch := omega) only [lp_X5_findAll_5, hnp, if_false, lt_eq, h9, e1, b1_some, dn_dec]
theorem m_findAll {w : Nat} {d : BD} {μ : Mem} (wf : WFd d) (hw : w ≤ 7) (hbk : BKm μ d) :
    ∃ μ', f_X5_findAll (nI w) μ = some (orN (VV d w 0 0).1, μ') ∧ (∀ i, i < 55 ∨ 57 < i → μ' i = μ i) ∧ (∀ a' b', a' ≤ d 0 0 → b' ≤ d 0 1 → MS μ' d w a' b') := by
  have w1 := wf.1
  obtain ⟨μ', e1, e2, e3⟩ := m_fa5 (w := w) wf hw (d 0 0 + 1) FU μ (Nat.le_refl _) (by unfold FU; omega) hbk (fun a' b' x y z => by omega)
  have hdr : dn (d 0 0 + 1) = nI (d 0 0) := rfl
  rw [hdr] at e1
  refine ⟨μ', ?_, e2, e3⟩
  have h8 := hbk.1
  have h00 : μ' 55 0 = nI (mo (VV d w 0 0).1) := (e3 0 0 (Nat.zero_le _) (Nat.zero_le _)).1
  obtain ⟨r1, -, -⟩ := VV_rng (w := w) wf (Nat.zero_le (d 0 0)) (Nat.zero_le (d 0 1))
  have hle := mo_le r1
  generalize (VV d w 0 0).1 = v at *
  simp (disch := omega) only [f_X5_findAll, lt_eq, h8, e1, b1_some, l_0, q_ck, q_cl, h00, l_f, q_lt]
  unfold orN mo at *
  (repeat' split) <;> first | rfl | omega
