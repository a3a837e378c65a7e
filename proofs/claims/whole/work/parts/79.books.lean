def FC (μ' μ : Mem) : Prop := ∀ c, (c < 8 ∨ 13 < c) → c ≠ 32 → μ' c = μ c
def FM (ν' ν : Mem) : Prop := (∀ c, c ≠ 43 → c < 52 ∨ 54 < c → ν' c = ν c) ∧ (∀ i, i < 15 ∨ 17 < i → ν' 43 i = ν 43 i)
theorem FC_t {a b c : Mem} (h1 : FC a b) (h2 : FC b c) : FC a c := fun x h h' => by rw [h1 x h h', h2 x h h']
theorem FM_t {a b c : Mem} (h1 : FM a b) (h2 : FM b c) : FM a c := ⟨fun x h h' => by rw [h1.1 x h h', h2.1 x h h'], fun i hi => by rw [h1.2 i hi, h2.2 i hi]⟩
theorem FC_r (a : Mem) : FC a a := fun _ _ _ => rfl
theorem FM_r (a : Mem) : FM a a := ⟨fun _ _ _ => rfl, fun _ _ => rfl⟩
theorem FC_u {a b : Mem} {c i : Nat} {v : Int32} (h : FC a b) (hc : (8 ≤ c ∧ c ≤ 13) ∨ c = 32) : FC (up a c i v) b := fun x h1 h2 => by rw [up_ne (by omega)]; exact h x h1 h2
theorem FM_u {a b : Mem} {c i : Nat} {v : Int32} (h : FM a b) (hc : 52 ≤ c ∧ c ≤ 54) : FM (up a c i v) b := ⟨fun x h1 h2 => by rw [up_ne (by omega)]; exact h.1 x h1 h2, fun j hj => by rw [up_ne (by omega)]; exact h.2 j hj⟩
theorem FM_v {a b : Mem} {i : Nat} {v : Int32} (h : FM a b) (hi : 15 ≤ i ∧ i ≤ 17) : FM (up a 43 i v) b := ⟨fun x h1 h2 => by rw [up_ne h1]; exact h.1 x h1 h2, fun j hj => by rw [up_ot (by omega)]; exact h.2 j hj⟩
def DM (ν : Mem) (e : BD) : Prop := ν 43 16 = nI (e 0 0) ∧ ν 43 17 = nI (e 0 1) ∧ (∀ k, k < e 0 0 → ν 52 k = nI (e 1 k) ∧ ν 53 k = nI (e 2 k) ∧ ν 54 k = nI (e 3 k)) ∧ (∀ k, k < e 0 1 → ν 53 (7 + k) = nI (e 4 k) ∧ ν 54 (7 + k) = nI (e 5 k))
def WP (e : BD) : Prop := e 0 0 ≤ 7 ∧ e 0 1 ≤ 7 ∧ e 0 2 = 4 ∧ e 0 3 = 1 ∧ e 0 4 = 7 ∧ (∀ k, k < e 0 0 → e 1 k < 3 ∧ e 2 k ≤ 9 ∧ e 3 k ≤ 4) ∧ (∀ k, k < e 0 1 → e 4 k ≤ 9 ∧ e 5 k ≤ 4)
def anc (v : Int32) (g : Nat) : Prop := (v = nI 45 ∧ g = 4) ∨ (g < 4 ∧ v = nI (97 + g))
theorem t45 : (45 : Int32).toInt = 45 := by decide
theorem t48 : (48 : Int32) = nI 48 := rfl
theorem t97 : (97 : Int32) = nI 97 := rfl
theorem dg_c (v : Int32) : (∃ g, 1 ≤ g ∧ g ≤ 9 ∧ v = nI (48 + g)) ∨ (v < 49 ∨ 57 < v) := by
  have a : (49 : Int32).toInt = 49 := by decide
  have b : (57 : Int32).toInt = 57 := by decide
  rcases pk_ix v (n := 58) (by omega) with h | h | ⟨j, hj, rfl⟩
  · rw [fa_lt, i0] at h; exact .inr (.inl (by rw [fa_lt]; omega))
  · rw [fa_le, nI_toInt (by omega)] at h; exact .inr (.inr (by rw [fa_lt]; omega))
  · by_cases c : j < 49
    · exact .inr (.inl (by rw [fa_lt, nI_toInt (by omega)]; omega))
    · exact .inl ⟨j - 48, by omega, by omega, by rw [show 48 + (j - 48) = j by omega]⟩
theorem an_c (v : Int32) : (∃ g, g ≤ 4 ∧ anc v g) ∨ (v ≠ 45 ∧ (v < 97 ∨ 100 < v)) := by
  have a : (97 : Int32).toInt = 97 := by decide
  have b : (100 : Int32).toInt = 100 := by decide
  by_cases c45 : v = 45
  · exact .inl ⟨4, by omega, .inl ⟨c45, rfl⟩⟩
  · rcases pk_ix v (n := 101) (by omega) with h | h | ⟨j, hj, rfl⟩
    · rw [fa_lt, i0] at h; exact .inr ⟨c45, .inl (by rw [fa_lt]; omega)⟩
    · rw [fa_le, nI_toInt (by omega)] at h; exact .inr ⟨c45, .inr (by rw [fa_lt]; omega)⟩
    · by_cases c : j < 97
      · exact .inr ⟨c45, .inl (by rw [fa_lt, nI_toInt (by omega)]; omega)⟩
      · exact .inl ⟨j - 97, by omega, .inr ⟨by omega, by rw [show 97 + (j - 97) = j by omega]⟩⟩
theorem isD {v : Int32} {μ : Mem} : (∀ g, 1 ≤ g → g ≤ 9 → v = nI (48 + g) → f_X3_isDigit v μ = some (nI 1, μ)) ∧ ((v < 49 ∨ 57 < v) → f_X3_isDigit v μ = some (nI 0, μ)) := by
  have a : (49 : Int32).toInt = 49 := by decide
  have b : (57 : Int32).toInt = 57 := by decide
  refine ⟨fun g h1 h2 e => ?_, fun h => ?_⟩
  · subst e
    rw [f_X3_isDigit, if_neg (by rw [fa_lt, nI_toInt (by omega)]; omega), if_neg (by rw [fa_lt, nI_toInt (by omega)]; omega)]; rfl
  · rw [f_X3_isDigit]
    by_cases c : v < 49
    · rw [if_pos c]; rfl
    · rw [if_neg c, if_pos (h.resolve_left c)]; rfl
theorem anO {v : Int32} {μ : Mem} : (∀ g, g ≤ 4 → anc v g → f_X3_anchorOf v μ = some (nI g, μ)) ∧ ((v ≠ 45 ∧ (v < 97 ∨ 100 < v)) → f_X3_anchorOf v μ = some (-9, μ)) := by
  have a : (97 : Int32).toInt = 97 := by decide
  have b : (100 : Int32).toInt = 100 := by decide
  refine ⟨fun g h1 e => ?_, fun ⟨h0, h⟩ => ?_⟩
  · rcases e with ⟨rfl, rfl⟩ | ⟨h2, rfl⟩
    · rfl
    · rw [f_X3_anchorOf, if_neg (by rw [fa_eq, nI_toInt (by omega), t45]; omega), if_neg (by rw [fa_lt, nI_toInt (by omega)]; omega), if_neg (by rw [fa_lt, nI_toInt (by omega)]; omega), t97, q_sub (by omega), show 97 + g - 97 = g by omega]
  · rw [f_X3_anchorOf, if_neg h0]
    by_cases c : v < 97
    · rw [if_pos c]
    · rw [if_neg c, if_pos (h.resolve_left c)]
/-! one code, class side -/
theorem go3 {v : Int32} {N : Nat} {μ : Mem} (hN : N < 7) (h : μ 32 0 = nI 3) (h5 : μ 8 5 = nI N) : (∀ g, 1 ≤ g → g ≤ 9 → v = nI (48 + g) → f_X3_goesOn v 8 μ = some (nI 1, up (up μ 32 0 (nI 4)) 10 N (nI g))) ∧ ((v < 49 ∨ 57 < v) → ∃ μ', f_X3_goesOn v 8 μ = some (nI 0, μ') ∧ FC μ' μ) := by
  have G : f_X3_goesOn v 8 μ = b2 (f_X3_goesOnInLeft v 8 μ) fun x7 μ6 => ck (bo x7) (some (x7, μ6)) := by
    rw [f_X3_goesOn, lt_eq, h, if_neg (by decide), if_neg (by decide), if_neg (by decide), if_pos (by decide)]
  have L : f_X3_goesOnInLeft v 8 μ = b2 (f_X3_isDigit v (up (up μ 32 0 4) 10 N (v - 48))) fun x10 μ9 => ck (bo x10) (some (x10, μ9)) := by
    rw [f_X3_goesOnInLeft, lt_eq, h5, if_pos (by rw [l_7, q_lt (by omega) (by omega)]; exact hN), h, if_neg (by decide), if_pos (by decide), lt_eq, q_ck hN (by omega), lt_eq, q_cl (by omega)]
  refine ⟨fun g h1 h2 e => ?_, fun e => ⟨up (up μ 32 0 4) 10 N (v - 48), ?_, FC_u (FC_u (FC_r _) (by omega)) (by omega)⟩⟩
  · rw [G, L, isD.1 g h1 h2 e, b2_some, ckb_1, b2_some, ckb_1, e, t48, q_sub (by omega), show 48 + g - 48 = g by omega]; rfl
  · rw [G, L, isD.2 e, b2_some, ckb_0, b2_some, ckb_0]
theorem go6 {v : Int32} {N : Nat} {μ : Mem} (hN : N < 7) (h : μ 32 0 = nI 6) (h5 : μ 8 6 = nI N) : (∀ g, 1 ≤ g → g ≤ 9 → v = nI (48 + g) → f_X3_goesOn v 8 μ = some (nI 1, up (up μ 32 0 (nI 7)) 12 N (nI g))) ∧ ((v < 49 ∨ 57 < v) → ∃ μ', f_X3_goesOn v 8 μ = some (nI 0, μ') ∧ FC μ' μ) := by
  have G : f_X3_goesOn v 8 μ = b2 (f_X3_goesOnInRight v 8 μ) fun x7 μ6 => ck (bo x7) (some (x7, μ6)) := by
    rw [f_X3_goesOn, lt_eq, h, if_neg (by decide), if_neg (by decide), if_neg (by decide), if_neg (by decide), if_neg (by decide), if_neg (by decide), if_pos (by decide)]
  have L : f_X3_goesOnInRight v 8 μ = b2 (f_X3_isDigit v (up (up μ 32 0 7) 12 N (v - 48))) fun x10 μ9 => ck (bo x10) (some (x10, μ9)) := by
    rw [f_X3_goesOnInRight, lt_eq, h5, if_pos (by rw [l_7, q_lt (by omega) (by omega)]; exact hN), h, if_pos (by decide), lt_eq, q_ck hN (by omega), lt_eq, q_cl (by omega)]
  refine ⟨fun g h1 h2 e => ?_, fun e => ⟨up (up μ 32 0 7) 12 N (v - 48), ?_, FC_u (FC_u (FC_r _) (by omega)) (by omega)⟩⟩
  · rw [G, L, isD.1 g h1 h2 e, b2_some, ckb_1, b2_some, ckb_1, e, t48, q_sub (by omega), show 48 + g - 48 = g by omega]; rfl
  · rw [G, L, isD.2 e, b2_some, ckb_0, b2_some, ckb_0]
theorem go4 {v : Int32} {N : Nat} {μ : Mem} (hN : N < 7) (h : μ 32 0 = nI 4) (h5 : μ 8 5 = nI N) : (∀ g, g ≤ 4 → anc v g → f_X3_goesOn v 8 μ = some (nI 1, up (up (up μ 32 0 (nI 5)) 11 N (nI g)) 8 5 (nI (N + 1)))) ∧ ((v ≠ 45 ∧ (v < 97 ∨ 100 < v)) → ∃ μ', f_X3_goesOn v 8 μ = some (nI 0, μ') ∧ FC μ' μ) := by
  have G : f_X3_goesOn v 8 μ = b2 (f_X3_goesOnInLeft v 8 μ) fun x7 μ6 => ck (bo x7) (some (x7, μ6)) := by
    rw [f_X3_goesOn, lt_eq, h, if_neg (by decide), if_neg (by decide), if_neg (by decide), if_neg (by decide), if_pos (by decide)]
  have L : ∀ z : Int32, (∀ ν, f_X3_anchorOf v ν = some (z, ν)) → f_X3_goesOnInLeft v 8 μ = if z = -9 then some (0, up (up (up μ 32 0 5) 11 N z) 8 5 (nI (N + 1))) else some (1, up (up (up μ 32 0 5) 11 N z) 8 5 (nI (N + 1))) := by
    intro z hz
    have e5 : up (up μ 32 0 5) 11 N z 8 5 = nI N := by rw [up_ne (by omega), up_ne (by omega)]; exact h5
    have e11 : up (up (up μ 32 0 5) 11 N z) 8 5 (nI (N + 1)) 11 N = z := by rw [up_ne (by omega), up_at]
    rw [f_X3_goesOnInLeft, lt_eq, h5, if_pos (by rw [l_7, q_lt (by omega) (by omega)]; exact hN), h, if_neg (by decide), if_neg (by decide), lt_eq, hz, b2_some, q_ck hN (by omega), lt_eq, lt_eq, q_cl (by omega), q_ck hN (by omega)]
    simp only [Nat.reduceAdd]
    rw [e5, l_1, q_add, ← l_1, e11]
  refine ⟨fun g h1 e => ?_, fun e => ⟨up (up (up μ 32 0 5) 11 N (-9)) 8 5 (nI (N + 1)), ?_, FC_u (FC_u (FC_u (FC_r _) (by omega)) (by omega)) (by omega)⟩⟩
  · rw [G, L (nI g) (fun ν => anO.1 g h1 e), if_neg (by rw [q_n9 (by omega)]; exact not_false), b2_some]; exact ckb_1 _
  · rw [G, L (-9) (fun ν => anO.2 e), if_pos rfl, b2_some]; exact ckb_0 _
theorem go7 {v : Int32} {N : Nat} {μ : Mem} (hN : N < 7) (h : μ 32 0 = nI 7) (h5 : μ 8 6 = nI N) : (∀ g, g ≤ 4 → anc v g → f_X3_goesOn v 8 μ = some (nI 1, up (up (up μ 32 0 (nI 8)) 13 N (nI g)) 8 6 (nI (N + 1)))) ∧ ((v ≠ 45 ∧ (v < 97 ∨ 100 < v)) → ∃ μ', f_X3_goesOn v 8 μ = some (nI 0, μ') ∧ FC μ' μ) := by
  have G : f_X3_goesOn v 8 μ = b2 (f_X3_goesOnInRight v 8 μ) fun x7 μ6 => ck (bo x7) (some (x7, μ6)) := by
    rw [f_X3_goesOn, lt_eq, h, if_neg (by decide), if_neg (by decide), if_neg (by decide), if_neg (by decide), if_neg (by decide), if_neg (by decide), if_neg (by decide), if_pos (by decide)]
  have L : ∀ z : Int32, (∀ ν, f_X3_anchorOf v ν = some (z, ν)) → f_X3_goesOnInRight v 8 μ = if z = -9 then some (0, up (up (up μ 32 0 8) 13 N z) 8 6 (nI (N + 1))) else some (1, up (up (up μ 32 0 8) 13 N z) 8 6 (nI (N + 1))) := by
    intro z hz
    have e5 : up (up μ 32 0 8) 13 N z 8 6 = nI N := by rw [up_ne (by omega), up_ne (by omega)]; exact h5
    have e11 : up (up (up μ 32 0 8) 13 N z) 8 6 (nI (N + 1)) 13 N = z := by rw [up_ne (by omega), up_at]
    rw [f_X3_goesOnInRight, lt_eq, h5, if_pos (by rw [l_7, q_lt (by omega) (by omega)]; exact hN), h, if_neg (by decide), lt_eq, hz, b2_some, q_ck hN (by omega), lt_eq, lt_eq, q_cl (by omega), q_ck hN (by omega)]
    simp only [Nat.reduceAdd]
    rw [e5, l_1, q_add, ← l_1, e11]
  refine ⟨fun g h1 e => ?_, fun e => ⟨up (up (up μ 32 0 8) 13 N (-9)) 8 6 (nI (N + 1)), ?_, FC_u (FC_u (FC_u (FC_r _) (by omega)) (by omega)) (by omega)⟩⟩
  · rw [G, L (nI g) (fun ν => anO.1 g h1 e), if_neg (by rw [q_n9 (by omega)]; exact not_false), b2_some]; exact ckb_1 _
  · rw [G, L (-9) (fun ν => anO.2 e), if_pos rfl, b2_some]; exact ckb_0 _
def knd (v : Int32) (g : Nat) : Prop := (v = 80 ∧ g = 0) ∨ (v = 76 ∧ g = 1) ∨ (v = 68 ∧ g = 2)
theorem go2 {v : Int32} {N : Nat} {μ : Mem} (hN : N < 7) (h : μ 32 0 = nI 2) (h5 : μ 8 5 = nI N) : (∀ g, knd v g → f_X3_goesOn v 8 μ = some (nI 1, up (up μ 32 0 (nI 3)) 9 N (nI g))) ∧ ((v ≠ 80 ∧ v ≠ 76 ∧ v ≠ 68) → ∃ μ', f_X3_goesOn v 8 μ = some (nI 0, μ') ∧ FC μ' μ) := by
  have G : f_X3_goesOn v 8 μ = b2 (f_X3_goesOnInLeft v 8 μ) fun x7 μ6 => ck (bo x7) (some (x7, μ6)) := by
    rw [f_X3_goesOn, lt_eq, h, if_neg (by decide), if_neg (by decide), if_pos (by decide)]
  have L : ∀ z : Int32, (∀ ν, f_X3_kindOf v ν = some (z, ν)) → f_X3_goesOnInLeft v 8 μ = if z = -9 then some (0, up (up μ 32 0 3) 9 N z) else some (1, up (up μ 32 0 3) 9 N z) := by
    intro z hz
    have e11 : up (up μ 32 0 3) 9 N z 9 N = z := up_at _ _ _ _
    rw [f_X3_goesOnInLeft, lt_eq, h5, if_pos (by rw [l_7, q_lt (by omega) (by omega)]; exact hN), h, if_pos (by decide), lt_eq, hz, b2_some, q_ck hN (by omega), lt_eq, q_cl (by omega), q_ck hN (by omega)]
    simp only [Nat.reduceAdd]
    rw [e11]
  refine ⟨fun g e => ?_, fun ⟨k1, k2, k3⟩ => ⟨up (up μ 32 0 3) 9 N (-9), ?_, FC_u (FC_u (FC_r _) (by omega)) (by omega)⟩⟩
  · have hz : ∀ ν, f_X3_kindOf v ν = some (nI g, ν) := by
      intro ν
      rcases e with ⟨rfl, rfl⟩ | ⟨rfl, rfl⟩ | ⟨rfl, rfl⟩ <;> rfl
    have g3 : g < 3 := by rcases e with ⟨_, rfl⟩ | ⟨_, rfl⟩ | ⟨_, rfl⟩ <;> omega
    rw [G, L (nI g) hz, if_neg (by rw [q_n9 (by omega)]; exact not_false), b2_some]; exact ckb_1 _
  · rw [G, L (-9) (fun ν => by rw [f_X3_kindOf, if_neg k3, if_neg k2, if_neg k1]), if_pos rfl, b2_some]; exact ckb_0 _
/-! a sentence, reference's side -/
theorem m_isS {p t n : Nat} {x : Int32} {V : Nat → Int32} {ν : Mem} (hp : p + n ≤ 240) (ht : t ≤ n) (h15 : ν 43 15 = nI (p + t)) (hV : t < n → ν 46 (p + t) = V t) : f_X5_isSign (nI (p + n)) x ν = if t < n ∧ V t = x then some (nI 1, up ν 43 15 (nI (p + (t + 1)))) else some (nI 0, ν) := by
  rw [f_X5_isSign, h15]
  by_cases c : t < n
  · rw [if_neg (show ¬ nI (p + n) ≤ nI (p + t) by rw [q_le (by omega) (by omega)]; omega), q_ck (by omega) (by omega), q_cl (by omega), hV c, l_1, q_add, lt_eq]
    by_cases c2 : V t = x
    · rw [if_pos c2, if_pos ⟨c, c2⟩]; rfl
    · rw [if_neg c2, if_neg (fun z => c2 z.2)]; rfl
  · rw [if_pos (show nI (p + n) ≤ nI (p + t) by rw [q_le (by omega) (by omega)]; omega), if_neg (fun z => c z.1)]; rfl
