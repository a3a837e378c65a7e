theorem m_keep2 : ∀ (m j f : Nat) (μ : Mem), j + m = 7 → m < f → ∃ μ', lp_X5_keep_2 f (nI j) μ = some μ' ∧ (∀ c, c ≠ 61 → μ' c = μ c) ∧ (∀ i, i < 7 → μ' 61 i = (if j ≤ i then μ 48 i else μ 61 i) ∧ μ' 61 (7 + i) = (if j ≤ i then μ 50 i else μ 61 (7 + i))) := by
  intro m
  induction m with
  | zero =>
    intro j f μ hj hf
    obtain ⟨f, rfl⟩ : ∃ m, f = m + 1 := ⟨f - 1, by omega⟩
    have : j = 7 := by omega
    subst this
    exact ⟨μ, by rw [lp_X5_keep_2, l_7, if_pos (Int32.le_refl _)], fun _ _ => rfl, fun i hi => ⟨by rw [if_neg (by omega)], by rw [if_neg (by omega)]⟩⟩
  | succ m ih =>
    intro j f μ hj hf
    obtain ⟨f, rfl⟩ : ∃ m, f = m + 1 := ⟨f - 1, by omega⟩
    obtain ⟨μ', e, f1, f2⟩ := ih (j + 1) f (up (up μ 61 j (μ 48 j)) 61 (7 + j) (μ 50 j)) (by omega) (by omega)
    refine ⟨μ', ?_, fun c hc => by rw [f1 c hc, up_ne hc, up_ne hc], fun i hi => ?_⟩
    · rw [lp_X5_keep_2, l_7, if_neg (show ¬ nI 7 ≤ nI j by rw [q_le (by omega) (by omega)]; omega)]
      simp (disch := omega) only [q_ck, q_cl, lt_eq, q_add, up_ne, l_1]
      exact e
    · obtain ⟨g1, g2⟩ := f2 i hi
      rw [up_ne (show 48 ≠ 61 by omega), up_ne (show 48 ≠ 61 by omega)] at g1
      rw [up_ne (show 50 ≠ 61 by omega), up_ne (show 50 ≠ 61 by omega)] at g2
      by_cases c : i = j
      · subst c
        rw [if_neg (by omega)] at g1 g2
        rw [up_ot (by omega), up_at] at g1
        rw [up_at] at g2
        rw [if_pos (Nat.le_refl _), if_pos (Nat.le_refl _)]
        exact ⟨g1, g2⟩
      · rw [up_ot (by omega), up_ot (by omega)] at g1
        rw [up_ot (by omega), up_ot (by omega)] at g2
        by_cases c2 : j ≤ i
        · rw [if_pos (by omega)] at g1 g2
          rw [if_pos c2, if_pos c2]
          exact ⟨g1, g2⟩
        · rw [if_neg (by omega)] at g1 g2
          rw [if_neg c2, if_neg c2]
          exact ⟨g1, g2⟩
theorem l_15 : (15 : Int32) = nI 15 := rfl
theorem m_keep (μ : Mem) : ∃ μ', f_X5_keep μ = some μ' ∧ (∀ c, c ≠ 61 → μ' c = μ c) ∧ (∀ i, i < 7 → μ' 61 i = μ 48 i ∧ μ' 61 (7 + i) = μ 50 i) ∧ μ' 61 14 = μ 43 7 ∧ μ' 61 15 = μ 43 8 ∧ μ' 61 16 = μ 43 9 := by
  obtain ⟨μ', e, f1, f2⟩ := m_keep2 7 0 FU μ (by omega) (by unfold FU; omega)
  refine ⟨up (up (up μ' 61 14 (μ 43 7)) 61 15 (μ 43 8)) 61 16 (μ 43 9), ?_, fun c hc => by rw [up_ne hc, up_ne hc, up_ne hc, f1 c hc], fun i hi => ?_, by simp [up_if], by simp [up_if], by simp [up_if]⟩
  · have e' : lp_X5_keep_2 FU 0 μ = some μ' := e
    simp (disch := omega) only [f_X5_keep, e', b1_some, l_14, l_15, l_16, q_ck, q_cl, lt_eq, up_ne, f1]
  · obtain ⟨g1, g2⟩ := f2 i hi
    rw [up_ot (by omega), up_ot (by omega), up_ot (by omega), up_ot (by omega), up_ot (by omega), up_ot (by omega), g1, g2, if_pos (by omega), if_pos (by omega)]
    exact ⟨rfl, rfl⟩
theorem m_putBack2 : ∀ (m j f : Nat) (μ : Mem), j + m = 7 → m < f → ∃ μ', lp_X5_putBack_2 f (nI j) μ = some μ' ∧ (∀ c, c ≠ 48 → c ≠ 50 → μ' c = μ c) ∧ (∀ i, i < 7 → μ' 48 i = (if j ≤ i then μ 61 i else μ 48 i) ∧ μ' 50 i = (if j ≤ i then μ 61 (7 + i) else μ 50 i)) := by
  intro m
  induction m with
  | zero =>
    intro j f μ hj hf
    obtain ⟨f, rfl⟩ : ∃ m, f = m + 1 := ⟨f - 1, by omega⟩
    have : j = 7 := by omega
    subst this
    exact ⟨μ, by rw [lp_X5_putBack_2, l_7, if_pos (Int32.le_refl _)], fun _ _ _ => rfl, fun i hi => ⟨by rw [if_neg (by omega)], by rw [if_neg (by omega)]⟩⟩
  | succ m ih =>
    intro j f μ hj hf
    obtain ⟨f, rfl⟩ : ∃ m, f = m + 1 := ⟨f - 1, by omega⟩
    obtain ⟨μ', e, f1, f2⟩ := ih (j + 1) f (up (up μ 48 j (μ 61 j)) 50 j (μ 61 (7 + j))) (by omega) (by omega)
    refine ⟨μ', ?_, fun c h1 h2 => by rw [f1 c h1 h2, up_ne h2, up_ne h1], fun i hi => ?_⟩
    · rw [lp_X5_putBack_2, l_7, if_neg (show ¬ nI 7 ≤ nI j by rw [q_le (by omega) (by omega)]; omega)]
      simp (disch := omega) only [q_ck, q_cl, lt_eq, q_add, up_ne, l_1]
      exact e
    · obtain ⟨g1, g2⟩ := f2 i hi
      rw [up_ne (show 61 ≠ 50 by omega), up_ne (show 61 ≠ 48 by omega)] at g1 g2
      by_cases c : i = j
      · subst c
        rw [if_neg (by omega)] at g1 g2
        rw [up_ne (by omega), up_at] at g1
        rw [up_at] at g2
        rw [if_pos (Nat.le_refl _), if_pos (Nat.le_refl _)]
        exact ⟨g1, g2⟩
      · rw [up_ne (show 48 ≠ 50 by omega), up_ot (by omega)] at g1
        rw [up_ot (by omega), up_ne (show 50 ≠ 48 by omega)] at g2
        by_cases c2 : j ≤ i
        · rw [if_pos (by omega)] at g1 g2
          rw [if_pos c2, if_pos c2]
          exact ⟨g1, g2⟩
        · rw [if_neg (by omega)] at g1 g2
          rw [if_neg c2, if_neg c2]
          exact ⟨g1, g2⟩
theorem m_putBack (μ : Mem) : ∃ μ', f_X5_putBack μ = some μ' ∧ (∀ c, c ≠ 43 → c ≠ 48 → c ≠ 50 → μ' c = μ c) ∧ (∀ i, i < 7 → μ' 48 i = μ 61 i ∧ μ' 50 i = μ 61 (7 + i)) ∧ μ' 43 7 = μ 61 14 ∧ μ' 43 8 = μ 61 15 ∧ μ' 43 9 = μ 61 16 ∧ (∀ i, i < 7 ∨ 9 < i → μ' 43 i = μ 43 i) := by
  obtain ⟨μ', e, f1, f2⟩ := m_putBack2 7 0 FU μ (by omega) (by unfold FU; omega)
  refine ⟨up (up (up μ' 43 7 (μ 61 14)) 43 8 (μ 61 15)) 43 9 (μ 61 16), ?_, fun c h1 h2 h3 => by rw [up_ne h1, up_ne h1, up_ne h1, f1 c h2 h3], fun i hi => ?_, by simp [up_if], by simp [up_if], by simp [up_if], fun i hi => by rw [up_ot (by omega), up_ot (by omega), up_ot (by omega), f1 43 (by omega) (by omega)]⟩
  · have e' : lp_X5_putBack_2 FU 0 μ = some μ' := e
    simp (disch := omega) only [f_X5_putBack, e', b1_some, l_14, l_15, l_16, q_ck, q_cl, lt_eq, up_ne, f1]
  · obtain ⟨g1, g2⟩ := f2 i hi
    rw [up_ne (by omega), up_ne (by omega), up_ne (by omega), up_ne (by omega), up_ne (by omega), up_ne (by omega), g1, g2, if_pos (by omega), if_pos (by omega)]
    exact ⟨rfl, rfl⟩
theorem m_tellDay {a : Nat} {μ : Mem} {d : BD} (hm : BKm μ d) (w : WFd d) (ha : a ≤ 4 ∨ (10 ≤ a ∧ a < 17)) : ∃ v μ', f_X5_tellDay (nI a) μ = some (v, μ') ∧ (∀ c, c ≠ 43 → c < 55 ∨ 60 < c → μ' c = μ c) ∧ (∀ i, i ≠ 24 → μ' 43 i = μ 43 i) ∧ (a ≠ 1 → a ≤ 4 → bestV d (if a = 0 then 0 else a - 1) v) ∧ (10 ≤ a → (a - 10 < d 0 0 → ∃ μb, MB μb d ∧ f_X5_pairedWith 0 (nI (a - 10)) μb = some (v, μb)) ∧ (¬ a - 10 < d 0 0 → v = -9)) := by
  have w1 := w.1
  by_cases c4 : a ≤ 4
  · have n10 : ¬ (10 : Int32) ≤ nI a := by rw [l_10, q_le (by omega) (by omega)]; omega
    by_cases c1 : a = 1
    · subst c1
      obtain ⟨μ', e, f1, f2, f3⟩ := m_findBest w hm
      rw [f_X5_tellDay, if_neg n10, f_X5_tellBest, e, b2_some, if_neg (by decide)]
      by_cases c : orN (VV d (d 0 4) 0 0).1 = -9
      · rw [if_pos c]
        exact ⟨-9, μ', rfl, f1, f2, fun h => absurd rfl h, fun h => by omega⟩
      · rw [if_neg c, if_neg (by decide), jn_X5_tellBest_52, if_neg (by decide), if_neg (by decide), ck64]
        exact ⟨_, μ', rfl, f1, f2, fun h => absurd rfl h, fun h => by omega⟩
    · obtain ⟨v, μ', g1, g2, g3, g4⟩ := m_tellBest (n := if a = 0 then 0 else a - 1) hm w (by split <;> omega)
      rw [show tb (if a = 0 then 0 else a - 1) = a by unfold tb; (repeat' split) <;> omega] at g1
      refine ⟨v, μ', ?_, g3, g4, fun _ _ => g2, fun h => by omega⟩
      rw [f_X5_tellDay, if_neg n10, g1]; rfl
  · have n10 : (10 : Int32) ≤ nI a := by rw [l_10, q_le (by omega) (by omega)]; omega
    have sb : nI a - 10 = nI (a - 10) := by rw [l_10, q_sub (by omega)]
    obtain ⟨μ', e, f1, f2, f3⟩ := m_findBest w hm
    have h5 : μ' 43 5 = nI (d 0 0) := by rw [f2 5 (by omega)]; exact hm.1
    by_cases c : a - 10 < d 0 0
    · obtain ⟨K, q1, q2, q3, q4, q5⟩ := PA_two (pc := μ' 43 24) (cs := 58) (cl := 59) (cr := 60) (μ1 := μ') w f3.2.2.2 f3.2.2.2
      have pw := m_pw0 (x := a - 10) (S := srt d (d 0 4)) (A := fun k => (pos d (d 0 4) k).1) (B := fun k => (pos d (d 0 4) k).2) w (by omega) q1 q3 (fun k hk => ⟨(q5 k hk).1, (q5 k hk).2.2⟩) K 0 FU (by omega) (by unfold FU; omega)
      have pw' : ∃ v, f_X5_pairedWith 0 (nI (a - 10)) μ' = some (v, μ') := by
        refine ⟨Uv (fun k => ctr (a - 10) (pos d (d 0 4) k).1 (dl (srt d (d 0 4) k)) (pos d (d 0 4) k).2 (dr (srt d (d 0 4) k))) K, ?_⟩
        unfold f_X5_pairedWith
        rw [Uv] at pw
        rw [show (0 : Int32) = nI 0 from rfl] at pw ⊢
        rw [pw]; rfl
      obtain ⟨v, pv⟩ := pw'
      refine ⟨v, μ', ?_, f1, f2, fun _ h => by omega, fun _ => ⟨fun _ => ⟨μ', f3, pv⟩, fun h => absurd c h⟩⟩
      rw [f_X5_tellDay, if_pos n10, e, b2_some, sb, m_isLeft_y h5 (by omega) c, b2_some, if_neg (e10 ▸ not_false), pv]; rfl
    · refine ⟨-9, μ', ?_, f1, f2, fun _ h => by omega, fun _ => ⟨fun h => absurd h c, fun _ => rfl⟩⟩
      rw [f_X5_tellDay, if_pos n10, e, b2_some, sb, m_isLeft_n h5 (.inr (by rw [q_le (by omega) (by omega)]; omega)), b2_some, if_pos (e00 ▸ trivial)]
