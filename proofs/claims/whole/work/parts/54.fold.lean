def A2 (d : BD) (T : Nat → Nat → Q4) (a b L : Nat) : Nat → Nat
  | 0 => 0
  | n + 1 => A2 d T a b L n + (if (a + dl n ≤ d 0 0 ∧ b + dr n ≤ d 0 1) ∧ cst d n a b + (T (a + dl n) (b + dr n)).1 = L then (T (a + dl n) (b + dr n)).2.2.1 else 0)
def N2 (d : BD) (T : Nat → Nat → Q4) (a b F : Nat) : Nat → Nat
  | 0 => 1000000
  | n + 1 => if a + dl n ≤ d 0 0 ∧ b + dr n ≤ d 0 1 then min (N2 d T a b F n) (if n = F then cst d n a b + (T (a + dl n) (b + dr n)).2.1 else cst d n a b + (T (a + dl n) (b + dr n)).1) else N2 d T a b F n
def TG (d : BD) (T : Nat → Nat → Q4) (a b m : Nat) : Prop := ∀ s, s < 5 → avl d s a b → ∃ m' S, m' + 1 ≤ m ∧ Gd (T (a + dl s) (b + dr s)) m' S
def FI (d : BD) (T : Nat → Nat → Q4) (a b n : Nat) : Prop :=
  (∀ s, s < n → avl d s a b → (fdq d T a b n).1 ≤ cst d s a b + (T (a + dl s) (b + dr s)).1) ∧
  ((fdq d T a b n).1 < 1000000 → (fdq d T a b n).2.2.2 < n ∧ avl d (fdq d T a b n).2.2.2 a b ∧ cst d (fdq d T a b n).2.2.2 a b + (T (a + dl (fdq d T a b n).2.2.2) (b + dr (fdq d T a b n).2.2.2)).1 = (fdq d T a b n).1 ∧ (∀ s, s < (fdq d T a b n).2.2.2 → avl d s a b → (fdq d T a b n).1 < cst d s a b + (T (a + dl s) (b + dr s)).1)) ∧
  ((fdq d T a b n).1 < 1000000 → A2 d T a b (fdq d T a b n).1 n = (fdq d T a b n).2.2.1 ∧ N2 d T a b (fdq d T a b n).2.2.2 n = (fdq d T a b n).2.1) ∧
  (∀ m, n ≤ m → N2 d T a b m n = (fdq d T a b n).1)
theorem A2_zero {d : BD} {T : Nat → Nat → Q4} {a b L : Nat} : ∀ n, (∀ s, s < n → avl d s a b → cst d s a b + (T (a + dl s) (b + dr s)).1 ≠ L) → A2 d T a b L n = 0
  | 0, _ => rfl
  | n + 1, h => by
    show A2 d T a b L n + _ = 0
    rw [A2_zero n (fun s hs => h s (by omega)), if_neg]
    rintro ⟨hv, he⟩
    exact h n (by omega) hv he
theorem fdq_Gd2 {d : BD} {T : Nat → Nat → Q4} {a b m : Nat} (w : WFd d) (hm : m ≤ 14) (hT : TG d T a b m) : ∀ n, n ≤ 5 → ∃ S, Gd (fdq d T a b n) m S
  | 0, _ => ⟨0, Or.inl ⟨rfl, rfl, rfl⟩⟩
  | n + 1, hn => by
    obtain ⟨S, h1⟩ := fdq_Gd2 w hm hT n (by omega)
    show ∃ S, Gd (itq d T a b (fdq d T a b n) n) m S
    unfold itq
    by_cases hv : a + dl n ≤ d 0 0 ∧ b + dr n ≤ d 0 1
    · rw [if_pos hv]
      obtain ⟨m', S', e1, e2⟩ := hT n (by omega) hv
      exact ⟨_, Gd_add hm h1 e2 (cst_le w (by omega) hv) e1⟩
    · rw [if_neg hv]
      exact ⟨S, h1⟩
theorem fdq_FI {d : BD} {T : Nat → Nat → Q4} {a b m : Nat} (w : WFd d) (hm : m ≤ 14) (hT : TG d T a b m) : ∀ n, n ≤ 5 → FI d T a b n
  | 0, _ => ⟨fun s hs => absurd hs (Nat.not_lt_zero s), fun h => absurd h (Nat.lt_irrefl 1000000), fun h => absurd h (Nat.lt_irrefl 1000000), fun _ _ => rfl⟩
  | n + 1, hn => by
    obtain ⟨i1, i2, i3, i5⟩ := fdq_FI w hm hT n (by omega)
    obtain ⟨S, hg⟩ := fdq_Gd2 w hm hT n (by omega)
    unfold FI
    have hstep : fdq d T a b (n + 1) = itq d T a b (fdq d T a b n) n := rfl
    rw [hstep]
    generalize fdq d T a b n = q at *
    obtain ⟨L, N, A, F⟩ := q
    simp only at i1 i2 i3 i5
    by_cases hv : a + dl n ≤ d 0 0 ∧ b + dr n ≤ d 0 1
    · obtain ⟨m', S', e1, e2⟩ := hT n (by omega) hv
      have hc := cst_le w (by omega) hv
      have hN2 : ∀ G, N2 d T a b G (n + 1) = min (N2 d T a b G n) (if n = G then cst d n a b + (T (a + dl n) (b + dr n)).2.1 else cst d n a b + (T (a + dl n) (b + dr n)).1) := by
        intro G
        show (if _ then _ else _) = _
        rw [if_pos hv]
      have hA2 : ∀ G, A2 d T a b G (n + 1) = A2 d T a b G n + (if cst d n a b + (T (a + dl n) (b + dr n)).1 = G then (T (a + dl n) (b + dr n)).2.2.1 else 0) := by
        intro G
        show _ + (if _ then _ else _) = _
        simp only [hv, and_self, true_and]
      have hit : itq d T a b (L, N, A, F) n = addq (L, N, A, F) n (cst d n a b + (T (a + dl n) (b + dr n)).1) (cpn (cst d n a b) (T (a + dl n) (b + dr n)).2.1) (T (a + dl n) (b + dr n)).2.2.1 := by
        unfold itq
        rw [if_pos hv]
      rw [hit]
      have hl1 : ∀ s, s < n + 1 → avl d s a b → (s < n ∨ s = n) := fun s hs _ => by omega
      generalize hl : cst d n a b + (T (a + dl n) (b + dr n)).1 = l at *
      generalize hn2 : cst d n a b + (T (a + dl n) (b + dr n)).2.1 = nn at *
      have hcn : min (cpn (cst d n a b) (T (a + dl n) (b + dr n)).2.1) L = min L nn := by
        have hL : L ≤ 1000000 := by rcases hg with z | z <;> simp only at z <;> omega
        unfold cpn
        split <;> omega
      generalize cpn (cst d n a b) (T (a + dl n) (b + dr n)).2.1 = cn at *
      generalize (T (a + dl n) (b + dr n)).2.2.1 = kk at *
      have hLN : L ≤ N ∧ N ≤ 1000000 ∧ L ≤ 1000000 := by rcases hg with z | z <;> simp only at z <;> omega
      unfold addq
      by_cases c1 : 1000000 ≤ l
      · rw [if_pos c1]
        simp only
        refine ⟨fun s hs hsv => ?_, fun h => ?_, fun h => ?_, fun m2 hm2 => ?_⟩
        · rcases hl1 s hs hsv with z | rfl
          · exact i1 s z hsv
          · rw [hl]; omega
        · obtain ⟨j1, j2⟩ := i2 h
          exact ⟨by omega, j2⟩
        · obtain ⟨j1, j2⟩ := i3 h
          obtain ⟨j3, -⟩ := i2 h
          refine ⟨?_, ?_⟩
          · rw [hA2, j1, if_neg (by omega)]; omega
          · rw [hN2, j2, if_neg (by omega)]; omega
        · rw [hN2, i5 m2 (by omega), if_neg (by omega)]; omega
      · rw [if_neg c1]
        by_cases c2 : l < L
        · rw [if_pos c2]
          simp only
          refine ⟨fun s hs hsv => ?_, fun h => ?_, fun h => ?_, fun m2 hm2 => ?_⟩
          · rcases hl1 s hs hsv with z | rfl
            · have := i1 s z hsv; omega
            · rw [hl]; omega
          · refine ⟨by omega, hv, hl, fun s hs hsv => ?_⟩
            have := i1 s hs hsv; omega
          · refine ⟨?_, ?_⟩
            · rw [hA2, if_pos rfl, A2_zero n (fun s hs hsv => by have := i1 s hs hsv; omega)]; omega
            · rw [hN2, i5 n (Nat.le_refl _), if_pos rfl, hcn]
          · rw [hN2, i5 m2 (by omega), if_neg (by omega)]; omega
        · rw [if_neg c2]
          have hLi : L < 1000000 := by omega
          obtain ⟨k1, k2⟩ := i2 hLi
          obtain ⟨k3, k4⟩ := i3 hLi
          by_cases c3 : l = L
          · rw [if_pos c3]
            simp only
            refine ⟨fun s hs hsv => ?_, fun h => ⟨by omega, k2⟩, fun h => ⟨?_, ?_⟩, fun m2 hm2 => ?_⟩
            · rcases hl1 s hs hsv with z | rfl
              · exact i1 s z hsv
              · rw [hl]; omega
            · rw [hA2, k3, if_pos c3]
            · rw [hN2, k4, if_neg (by omega)]; omega
            · rw [hN2, i5 m2 (by omega), if_neg (by omega)]; omega
          · rw [if_neg c3]
            simp only
            refine ⟨fun s hs hsv => ?_, fun h => ⟨by omega, k2⟩, fun h => ⟨?_, ?_⟩, fun m2 hm2 => ?_⟩
            · rcases hl1 s hs hsv with z | rfl
              · exact i1 s z hsv
              · rw [hl]; omega
            · rw [hA2, k3, if_neg c3]; omega
            · rw [hN2, k4, if_neg (by omega)]
            · rw [hN2, i5 m2 (by omega), if_neg (by omega)]; omega
    · have hit : itq d T a b (L, N, A, F) n = (L, N, A, F) := by
        unfold itq
        rw [if_neg hv]
      rw [hit]
      simp only
      have hN2 : ∀ G, N2 d T a b G (n + 1) = N2 d T a b G n := by
        intro G
        show (if _ then _ else _) = _
        rw [if_neg hv]
      have hA2 : ∀ G, A2 d T a b G (n + 1) = A2 d T a b G n := by
        intro G
        show _ + (if _ then _ else _) = _
        rw [if_neg (fun z => hv z.1)]; omega
      have hl1 : ∀ s, s < n + 1 → avl d s a b → s < n := fun s hs hsv => by
        rcases Nat.lt_or_ge s n with z | z
        · exact z
        · have : s = n := by omega
          subst this
          exact absurd hsv hv
      refine ⟨fun s hs hsv => i1 s (hl1 s hs hsv) hsv, fun h => ⟨by have := (i2 h).1; omega, (i2 h).2⟩, fun h => ?_, fun m2 hm2 => ?_⟩
      · rw [hN2, hA2]; exact i3 h
      · rw [hN2]; exact i5 m2 (by omega)
def mR (x y : Nat) : Prop := (x = 1000000 ∧ y = 99999) ∨ (x < 90000 ∧ y = x)
def cms (q : Nat × Nat × Nat) (c k : Nat) : Nat × Nat × Nat :=
  if 99999 ≤ c then q else if c < q.1 then (c, q.1, k) else if c = q.1 then (q.1, c, q.2.2 + k) else if c < q.2.1 then (q.1, c, q.2.2) else q
def Rm (q : Q4) (x : Nat × Nat × Nat) : Prop := mR q.1 x.1 ∧ x.2.2 = q.2.2.1 ∧ (q.2.2.1 ≤ 1 → mR q.2.1 x.2.1)
theorem Rm_add {q : Q4} {m S s c m' S' y1 y2 : Nat} {t : Q4} {x : Nat × Nat × Nat} (hm : m ≤ 14) (hq : Gd q m S) (ht : Gd t m' S') (hc : c ≤ 48) (hm' : m' + 1 ≤ m) (hy1 : mR t.1 y1) (hy2 : mR t.2.1 y2) (hx : Rm q x) : Rm (addq q s (c + t.1) (cpn c t.2.1) t.2.2.1) (cms (cms x (c + y1) t.2.2.1) (if y2 = y1 then 99999 else c + y2) 1) := by
  obtain ⟨q1, q2, q3, q4⟩ := q
  obtain ⟨t1, t2, t3, t4⟩ := t
  obtain ⟨x1, x2, x3⟩ := x
  obtain ⟨r1, r2, r3⟩ := hx
  simp only at r1 r2 r3 hy1 hy2 ⊢
  subst r2
  rcases hy1 with ⟨a1, a2⟩ | ⟨a1, a2⟩
  · subst a1
    subst a2
    have e2 : y2 = 99999 := by
      rcases ht with ⟨u1, u2, u3⟩ | ⟨u1, u2, u3, u4⟩ <;> simp only at * <;> unfold mR at hy2 <;> omega
    subst e2
    simp only [addq, cms, if_true, show 1000000 ≤ c + 1000000 by omega, show 99999 ≤ c + 99999 by omega, Nat.le_refl]
    exact ⟨r1, rfl, r3⟩
  · subst a2
    rcases ht with ⟨u1, u2, u3⟩ | ⟨u1, u2, u3, u4⟩
    · simp only at u1; omega
    simp only at u1 u2 u3 u4
    have hl : ¬ 1000000 ≤ c + y1 := by omega
    have hl9 : ¬ 99999 ≤ c + y1 := by omega
    simp only [addq, hl, if_false]
    have hin : cms (x1, x2, x3) (c + y1) t3 = if c + y1 < x1 then (c + y1, x1, t3) else if c + y1 = x1 then (x1, c + y1, x3 + t3) else if c + y1 < x2 then (x1, c + y1, x3) else (x1, x2, x3) := by
      simp only [cms, hl9, if_false]
    rw [hin]
    have hq1 : (q1 = 1000000 ∧ q2 = 1000000 ∧ x3 = 0) ∨ (q1 ≤ 48 * m ∧ (q2 = 1000000 ∨ q2 ≤ 48 * m) ∧ ((x3 = 1 ∧ q1 < q2) ∨ (2 ≤ x3 ∧ q2 = q1))) := by
      rcases hq with z | ⟨z1, z2, z3, z4⟩
      · exact Or.inl z
      · exact Or.inr ⟨z1, z3, z4⟩
    clear hq hin
    unfold mR at r1 r3 hy2
    unfold Rm mR
    by_cases c1 : c + y1 < q1
    · have c1' : c + y1 < x1 := by omega
      rw [if_pos c1, if_pos c1']
      by_cases c5 : y2 = y1
      · rw [if_pos c5]
        simp only [cms, Nat.le_refl, if_true, cpn, and_true]
        refine ⟨?_, trivial, fun h => ?_⟩
        · omega
        · exfalso; omega
      · rw [if_neg c5]
        simp only [cms, cpn, and_true]
        refine ⟨?_, ?_, ?_⟩ <;> (repeat' split) <;> simp only [and_true] at * <;> omega
    · have c1' : ¬ c + y1 < x1 := by omega
      rw [if_neg c1, if_neg c1']
      by_cases c2 : c + y1 = q1
      · have c2' : c + y1 = x1 := by omega
        rw [if_pos c2, if_pos c2']
        by_cases c5 : y2 = y1
        · rw [if_pos c5]
          simp only [cms, Nat.le_refl, if_true, and_true]
          refine ⟨?_, trivial, fun h => ?_⟩
          · omega
          · exfalso; omega
        · rw [if_neg c5]
          simp only [cms, and_true]
          refine ⟨?_, ?_, ?_⟩ <;> (repeat' split) <;> simp only [and_true] at * <;> omega
      · have c2' : ¬ c + y1 = x1 := by omega
        rw [if_neg c2, if_neg c2']
        by_cases c5 : y2 = y1
        · rw [if_pos c5]
          simp only [cms, Nat.le_refl, if_true, and_true]
          refine ⟨?_, ?_, ?_⟩ <;> (repeat' split) <;> simp only [and_true] at * <;> omega
        · rw [if_neg c5]
          simp only [cms, and_true]
          refine ⟨?_, ?_, ?_⟩ <;> (repeat' split) <;> simp only [and_true] at * <;> omega
