abbrev Q4 : Type := Nat × Nat × Nat × Nat
def q0 : Q4 := (1000000, 1000000, 0, 0)
def addq (q : Q4) (s l n k : Nat) : Q4 :=
  if 1000000 ≤ l then q
  else if l < q.1 then (l, min n q.1, k, s)
  else if l = q.1 then (q.1, q.1, q.2.2.1 + k, q.2.2.2)
  else (q.1, min q.2.1 l, q.2.2.1, q.2.2.2)
def cpn (c n : Nat) : Nat := if 1000000 ≤ n then 1000000 else c + n
def itq (d : BD) (T : Nat → Nat → Q4) (a b : Nat) (q : Q4) (s : Nat) : Q4 :=
  if a + dl s ≤ d 0 0 ∧ b + dr s ≤ d 0 1 then addq q s (cst d s a b + (T (a + dl s) (b + dr s)).1) (cpn (cst d s a b) (T (a + dl s) (b + dr s)).2.1) (T (a + dl s) (b + dr s)).2.2.1 else q
def fdq (d : BD) (T : Nat → Nat → Q4) (a b : Nat) : Nat → Q4
  | 0 => q0
  | n + 1 => itq d T a b (fdq d T a b n) n
def stq (d : BD) (w : Nat) (T : Nat → Nat → Q4) (a b : Nat) : Q4 :=
  if a ≤ b + w ∧ b ≤ a + w then (if a = d 0 0 ∧ b = d 0 1 then (0, 1000000, 1, 0) else fdq d T a b 5) else q0
def VT (d : BD) (w : Nat) : Nat → Nat → Nat → Q4
  | 0 => fun _ _ => q0
  | n + 1 => fun a b => stq d w (VT d w n) a b
def VV (d : BD) (w a b : Nat) : Q4 := VT d w 15 a b
theorem dlr (s : Nat) (h : s < 5) : 1 ≤ dl s + dr s := by
  rcases (show s = 0 ∨ s = 1 ∨ s = 2 ∨ s = 3 ∨ s = 4 by omega) with rfl | rfl | rfl | rfl | rfl <;> decide
theorem itq_congr {d : BD} {T T' : Nat → Nat → Q4} {a b s : Nat} {q : Q4} (h : avl d s a b → T (a + dl s) (b + dr s) = T' (a + dl s) (b + dr s)) : itq d T a b q s = itq d T' a b q s := by
  unfold itq
  by_cases hv : a + dl s ≤ d 0 0 ∧ b + dr s ≤ d 0 1
  · rw [if_pos hv, if_pos hv, h hv]
  · rw [if_neg hv, if_neg hv]
theorem fdq_congr {d : BD} {T T' : Nat → Nat → Q4} {a b : Nat} : ∀ n, (∀ s, s < n → avl d s a b → T (a + dl s) (b + dr s) = T' (a + dl s) (b + dr s)) → fdq d T a b n = fdq d T' a b n
  | 0, _ => rfl
  | n + 1, h => by
    show itq d T a b (fdq d T a b n) n = itq d T' a b (fdq d T' a b n) n
    rw [fdq_congr n (fun s hs => h s (by omega)), itq_congr (h n (by omega))]
theorem stq_congr {d : BD} {w : Nat} {T T' : Nat → Nat → Q4} {a b : Nat} (h : ∀ s, s < 5 → avl d s a b → T (a + dl s) (b + dr s) = T' (a + dl s) (b + dr s)) : stq d w T a b = stq d w T' a b := by
  unfold stq
  rw [fdq_congr 5 h]
theorem VT_fuel {d : BD} {w : Nat} : ∀ (n a b : Nat), a ≤ d 0 0 → b ≤ d 0 1 → (d 0 0 - a) + (d 0 1 - b) < n → VT d w (n + 1) a b = VT d w n a b
  | 0, a, b, _, _, h => absurd h (Nat.not_lt_zero _)
  | n + 1, a, b, ha, hb, h => by
    show stq d w (VT d w (n + 1)) a b = stq d w (VT d w n) a b
    refine stq_congr (fun s hs hv => ?_)
    have := dlr s hs
    have h1 := hv.1
    have h2 := hv.2
    exact VT_fuel n _ _ hv.1 hv.2 (by omega)
theorem VV_eq {d : BD} {w a b : Nat} (wf : WFd d) (ha : a ≤ d 0 0) (hb : b ≤ d 0 1) : VV d w a b = stq d w (VV d w) a b := by
  obtain ⟨w1, w2, -⟩ := wf
  show stq d w (VT d w 14) a b = stq d w (VT d w 15) a b
  refine stq_congr (fun s hs hv => ?_)
  have := dlr s hs
  have h1 := hv.1
  have h2 := hv.2
  exact (VT_fuel 14 _ _ hv.1 hv.2 (by omega)).symm
def Gd (q : Q4) (m S : Nat) : Prop := (q.1 = 1000000 ∧ q.2.1 = 1000000 ∧ q.2.2.1 = 0) ∨ (q.1 ≤ 48 * m ∧ q.2.2.1 ≤ S ∧ (q.2.1 = 1000000 ∨ q.2.1 ≤ 48 * m) ∧ ((q.2.2.1 = 1 ∧ q.1 < q.2.1) ∨ (2 ≤ q.2.2.1 ∧ q.2.1 = q.1)))
theorem Gd_add {q : Q4} {m S s c m' S' : Nat} {t : Q4} (hm : m ≤ 14) (hq : Gd q m S) (ht : Gd t m' S') (hc : c ≤ 48) (hm' : m' + 1 ≤ m) : Gd (addq q s (c + t.1) (cpn c t.2.1) t.2.2.1) m (S + S') := by
  obtain ⟨q1, q2, q3, q4⟩ := q
  obtain ⟨t1, t2, t3, t4⟩ := t
  unfold addq cpn
  by_cases h1 : 1000000 ≤ c + t1
  · rw [if_pos h1]
    rcases hq with hq | hq
    · exact Or.inl hq
    · exact Or.inr ⟨hq.1, by have := hq.2.1; omega, hq.2.2.1, hq.2.2.2⟩
  · rw [if_neg h1]
    rcases ht with ht | ⟨u1, u2, u3, u4⟩
    · have := ht.1; simp only at this; omega
    · simp only at u1 u2 u3 u4 ⊢
      by_cases h2 : c + t1 < q1
      · rw [if_pos h2]
        refine Or.inr ⟨?_, ?_, ?_, ?_⟩ <;> simp only
        · omega
        · omega
        · rcases hq with ⟨v1, v2, v3⟩ | ⟨v1, v2, v3, v4⟩ <;> simp only at * <;> split <;> omega
        · rcases hq with ⟨v1, v2, v3⟩ | ⟨v1, v2, v3, v4⟩ <;> simp only at * <;> split <;> omega
      · rw [if_neg h2]
        rcases hq with ⟨v1, v2, v3⟩ | ⟨v1, v2, v3, v4⟩
        · simp only at v1 v2 v3; omega
        · simp only at v1 v2 v3 v4
          by_cases h3 : c + t1 = q1
          · rw [if_pos h3]
            refine Or.inr ⟨?_, ?_, ?_, ?_⟩ <;> simp only
            · omega
            · omega
            · omega
            · right; constructor
              · omega
              · first | rfl | trivial
          · rw [if_neg h3]
            refine Or.inr ⟨?_, ?_, ?_, ?_⟩ <;> simp only
            · omega
            · omega
            · omega
            · omega
theorem Gd_mono {q : Q4} {m S S' : Nat} (h : Gd q m S) (hs : S ≤ S') : Gd q m S' := by
  unfold Gd at *
  omega
theorem fdq_Gd {d : BD} {T : Nat → Nat → Q4} {a b m : Nat} {f : Nat → Nat} (w : WFd d) (hm : m ≤ 14) (hT : ∀ s, s < 5 → avl d s a b → ∃ m', m' + 1 ≤ m ∧ Gd (T (a + dl s) (b + dr s)) m' (f s)) : ∀ n, n ≤ 5 → ∃ S, Gd (fdq d T a b n) m S ∧ ((n = 0 ∧ S = 0) ∨ (n = 1 ∧ S = f 0) ∨ (n = 2 ∧ S = f 0 + f 1) ∨ (n = 3 ∧ S = f 0 + f 1 + f 2) ∨ (n = 4 ∧ S = f 0 + f 1 + f 2 + f 3) ∨ (n = 5 ∧ S = f 0 + f 1 + f 2 + f 3 + f 4))
  | 0, _ => ⟨0, Or.inl ⟨rfl, rfl, rfl⟩, Or.inl ⟨rfl, rfl⟩⟩
  | n + 1, hn => by
    obtain ⟨S, h1, h2⟩ := fdq_Gd w hm hT n (by omega)
    have key : Gd (fdq d T a b (n + 1)) m (S + f n) := by
      show Gd (itq d T a b (fdq d T a b n) n) m _
      unfold itq
      by_cases hv : a + dl n ≤ d 0 0 ∧ b + dr n ≤ d 0 1
      · rw [if_pos hv]
        obtain ⟨m', e1, e2⟩ := hT n (by omega) hv
        exact Gd_add hm h1 e2 (cst_le w (by omega) hv) e1
      · rw [if_neg hv]
        exact Gd_mono h1 (by omega)
    refine ⟨_, key, ?_⟩
    rcases (show n = 0 ∨ n = 1 ∨ n = 2 ∨ n = 3 ∨ n = 4 by omega) with rfl | rfl | rfl | rfl | rfl <;> omega
theorem pow3 (m : Nat) : 1 ≤ 3 ^ m := Nat.pos_of_ne_zero (by simp)
theorem VV_Gd {d : BD} {w : Nat} (wf : WFd d) : ∀ (m a b : Nat), a ≤ d 0 0 → b ≤ d 0 1 → (d 0 0 - a) + (d 0 1 - b) = m → Gd (VV d w a b) m (3 ^ m) := by
  intro m
  induction m using Nat.strongRecOn with
  | ind m ih =>
    intro a b ha hb hm
    have w1 := wf.1
    have w2 := wf.2.1
    rw [VV_eq wf ha hb]
    unfold stq
    by_cases hbd : a ≤ b + w ∧ b ≤ a + w
    · rw [if_pos hbd]
      by_cases he : a = d 0 0 ∧ b = d 0 1
      · rw [if_pos he]
        exact Or.inr ⟨Nat.zero_le _, pow3 m, Or.inl rfl, Or.inl ⟨rfl, by decide⟩⟩
      · rw [if_neg he]
        have hT : ∀ s, s < 5 → avl d s a b → ∃ m', m' + 1 ≤ m ∧ Gd (VV d w (a + dl s) (b + dr s)) m' ((fun s => 3 ^ (m - (dl s + dr s))) s) := by
          intro s hs hv
          have h1 := hv.1
          have h2 := hv.2
          have := dlr s hs
          exact ⟨m - (dl s + dr s), by omega, ih _ (by omega) _ _ hv.1 hv.2 (by omega)⟩
        obtain ⟨S, h1, h2⟩ := fdq_Gd wf (by omega) hT 5 (Nat.le_refl 5)
        simp only [dl, dr] at h2
        have hS : S = 3 ^ (m - (1 + 1)) + 3 ^ (m - (1 + 0)) + 3 ^ (m - (0 + 1)) + 3 ^ (m - (2 + 1)) + 3 ^ (m - (1 + 2)) := by
          rcases h2 with ⟨z, -⟩ | ⟨z, -⟩ | ⟨z, -⟩ | ⟨z, -⟩ | ⟨z, -⟩ | ⟨-, z⟩ <;> first | exact z | omega
        by_cases h3 : 3 ≤ m
        · refine Gd_mono h1 ?_
          obtain ⟨k, rfl⟩ : ∃ k, m = k + 3 := ⟨m - 3, by omega⟩
          rw [hS]
          show 3 ^ (k + 1) + 3 ^ (k + 2) + 3 ^ (k + 2) + 3 ^ k + 3 ^ k ≤ 3 ^ (k + 3)
          rw [Nat.pow_succ 3 (k + 2), Nat.pow_succ 3 (k + 1), Nat.pow_succ 3 k]
          have := pow3 k
          omega
        · have e3 : ∀ n, n = 3 ∨ n = 4 → itq d (VV d w) a b (fdq d (VV d w) a b n) n = fdq d (VV d w) a b n := by
            intro n hn
            unfold itq
            rw [if_neg]
            rintro ⟨z1, z2⟩
            rcases hn with rfl | rfl <;> simp only [dl, dr] at z1 z2 <;> omega
          have e5 : fdq d (VV d w) a b 5 = fdq d (VV d w) a b 3 := by
            show itq d (VV d w) a b (fdq d (VV d w) a b 4) 4 = _
            rw [e3 4 (Or.inr rfl)]
            exact e3 3 (Or.inl rfl)
          rw [e5]
          obtain ⟨S3, g1, g2⟩ := fdq_Gd wf (by omega) hT 3 (by decide)
          simp only [dl, dr] at g2
          have hS3 : S3 = 3 ^ (m - (1 + 1)) + 3 ^ (m - (1 + 0)) + 3 ^ (m - (0 + 1)) := by
            rcases g2 with ⟨z, -⟩ | ⟨z, -⟩ | ⟨z, -⟩ | ⟨-, z⟩ | ⟨z, -⟩ | ⟨z, -⟩ <;> first | exact z | omega
          refine Gd_mono g1 ?_
          rcases (show m = 0 ∨ m = 1 ∨ m = 2 by omega) with rfl | rfl | rfl
          · exfalso; omega
          · rw [hS3]; decide
          · rw [hS3]; decide
    · rw [if_neg hbd]
      exact Or.inl ⟨rfl, rfl, rfl⟩
