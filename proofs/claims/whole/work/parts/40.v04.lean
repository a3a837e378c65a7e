set_option maxRecDepth 100000 in
set_option maxHeartbeats 4000000 in
theorem vjn_X5_readAll_60 (G : GG) (ih : Mem → Option ((Mem) ⊕ (Int32 × Mem))) (x1v : Int32) (kk : ((Mem) ⊕ (Int32 × Mem)) → Option Oc) (hx : ∀ (μ : Mem), V G J_X5_readAll 105 [(0, .ref (G.2.1 43)), (1, .int x1v)] [] μ (kk (.inl μ)) some) (ho : ∀ t, kk (.inr t) = some (oI t)) (hih : ∀ (μ : Mem), V G J_X5_readAll 22 [(0, .ref (G.2.1 43)), (1, .int x1v)] [] μ (ih  μ) kk) (μ : Mem) : V G J_X5_readAll 60 [(0, .ref (G.2.1 43)), (1, .int x1v)] [] μ (jn_X5_readAll_60 ih x1v μ) kk := by
  rw [jn_X5_readAll_60]
  refine v_aload_n (n := 61) dX5_readAll_60 rfl 0 rfl rfl ?_
  refine v_iload_n (n := 62) dX5_readAll_61 rfl 1 rfl rfl ?_
  refine v_bipush (n := 64) (v := 59) dX5_readAll_62 cb_59 rfl ?_
  refine v_cVi (n := 67) (st := []) [.int x1v, .int (59 : Int32)] dX5_readAll_64 (fun t ht => M_X5_isSign G x1v (59 : Int32) μ t ht) cal_X5_isSign mw163 (show isO 43 5 from rfl) rfl rfl (Nat.le_of_ble_eq_true rfl) ⟨Nat.le_of_ble_eq_true rfl, Nat.le_of_ble_eq_true rfl⟩ rfl (fun x6 μ5 => ?_)
  refine v_if_eq (tgt := 90) (n := 70) dX5_readAll_67 (by decide) rfl ?_ ?_
  · refine v_iconst (n := 91) (v := 0) dX5_readAll_90 ci_0 rfl ?_
    exact v_zret dX5_readAll_91 rfl (by decide) (ho _)
  · refine v_aload_n (n := 71) dX5_readAll_70 rfl 0 rfl rfl ?_
    refine v_iload_n (n := 72) dX5_readAll_71 rfl 1 rfl rfl ?_
    refine v_cVi (n := 75) (st := []) [.int x1v] dX5_readAll_72 (fun t ht => M_X5_readKindNext G x1v μ5 t ht) cal_X5_readKindNext mw164 (show isO 43 5 from rfl) rfl rfl (Nat.le_of_ble_eq_true rfl) ⟨Nat.le_of_ble_eq_true rfl, Nat.le_of_ble_eq_true rfl⟩ rfl (fun x8 μ7 => ?_)
    refine v_if_eq (tgt := 90) (n := 78) dX5_readAll_75 (by decide) rfl ?_ ?_
    · refine v_iconst (n := 91) (v := 0) dX5_readAll_90 ci_0 rfl ?_
      exact v_zret dX5_readAll_91 rfl (by decide) (ho _)
    · refine v_aload_n (n := 79) dX5_readAll_78 rfl 0 rfl rfl ?_
      refine v_iload_n (n := 80) dX5_readAll_79 rfl 1 rfl rfl ?_
      refine v_aload_n (n := 81) dX5_readAll_80 rfl 0 rfl rfl ?_
      refine v_getI (n := 84) (i := 16) dX5_readAll_81 (show isO 43 5 from rfl) rfl fg_X5_107 rfl ?_
      refine v_cVi (n := 87) (st := []) [.int x1v, .int (μ7 43 16)] dX5_readAll_84 (fun t ht => M_X5_readSentence G x1v (μ7 43 16) μ7 t ht) cal_X5_readSentence mw165 (show isO 43 5 from rfl) rfl rfl (Nat.le_of_ble_eq_true rfl) ⟨Nat.le_of_ble_eq_true rfl, Nat.le_of_ble_eq_true rfl⟩ rfl (fun x10 μ9 => ?_)
      refine v_if_ne (tgt := 92) (n := 90) dX5_readAll_87 (by decide) rfl ?_ ?_
      · refine v_iconst (n := 91) (v := 0) dX5_readAll_90 ci_0 rfl ?_
        exact v_zret dX5_readAll_91 rfl (by decide) (ho _)
      · refine v_aload_n (n := 93) dX5_readAll_92 rfl 0 rfl rfl ?_
        refine v_dup (n := 94) dX5_readAll_93 rfl rfl ?_
        refine v_getI (n := 97) (i := 16) dX5_readAll_94 (show isO 43 5 from rfl) rfl fg_X5_107 rfl ?_
        refine v_iconst (n := 98) (v := 1) dX5_readAll_97 ci_1 rfl ?_
        refine v_iadd (n := 99) dX5_readAll_98 rfl ?_
        refine v_put (n := 102) (i := 16) dX5_readAll_99 (show isO 43 5 from rfl) rfl fp_X5_107 rfl rfl rfl ?_
        refine v_lm (fun μ11 => ?_)
        refine v_goto (tgt := 22) dX5_readAll_102 (by decide) ?_
        exact hih  μ11
set_option maxRecDepth 100000 in
set_option maxHeartbeats 4000000 in
theorem vlp_X5_readAll_22 (G : GG) (x1v : Int32) (kk : ((Mem) ⊕ (Int32 × Mem)) → Option Oc) (hx : ∀ (μ : Mem), V G J_X5_readAll 105 [(0, .ref (G.2.1 43)), (1, .int x1v)] [] μ (kk (.inl μ)) some) (ho : ∀ t, kk (.inr t) = some (oI t)) : ∀ (n : Nat) (μ : Mem), V G J_X5_readAll 22 [(0, .ref (G.2.1 43)), (1, .int x1v)] [] μ (lp_X5_readAll_22 x1v n  μ) kk := by
  intro n
  induction n with
  | zero => intro _; exact v_none
  | succ n ih =>
    intro μ
    rw [lp_X5_readAll_22]
    refine v_aload_n (n := 23) dX5_readAll_22 rfl 0 rfl rfl ?_
    refine v_getI (n := 26) (i := 16) dX5_readAll_23 (show isO 43 5 from rfl) rfl fg_X5_107 rfl ?_
    refine v_if_eq (tgt := 60) (n := 29) dX5_readAll_26 (by decide) rfl ?_ ?_
    · exact vjn_X5_readAll_60 G (lp_X5_readAll_22 x1v n) x1v kk hx ho ih μ
    · refine v_aload_n (n := 30) dX5_readAll_29 rfl 0 rfl rfl ?_
      refine v_getI (n := 33) (i := 16) dX5_readAll_30 (show isO 43 5 from rfl) rfl fg_X5_107 rfl ?_
      refine v_bipush (n := 35) (v := 7) dX5_readAll_33 cb_7 rfl ?_
      refine v_icmp_ge (tgt := 105) (n := 38) dX5_readAll_35 (by decide) rfl ?_ ?_
      · exact v_leaf (hx  μ)
      · refine v_aload_n (n := 39) dX5_readAll_38 rfl 0 rfl rfl ?_
        refine v_getI (n := 42) (i := 15) dX5_readAll_39 (show isO 43 5 from rfl) rfl fg_X5_86 rfl ?_
        refine v_iload_n (n := 43) dX5_readAll_42 rfl 1 rfl rfl ?_
        refine v_icmp_ge (tgt := 105) (n := 46) dX5_readAll_43 (by decide) rfl ?_ ?_
        · exact v_leaf (hx  μ)
        · refine v_aload_n (n := 47) dX5_readAll_46 rfl 0 rfl rfl ?_
          refine v_getR (n := 50) (i := 4) (q2 := 46) dX5_readAll_47 (show isO 43 5 from rfl) rfl fg_X5_16 rfl ?_
          refine v_aload_n (n := 51) dX5_readAll_50 rfl 0 rfl rfl ?_
          refine v_getI (n := 54) (i := 15) dX5_readAll_51 (show isO 43 5 from rfl) rfl fg_X5_86 rfl ?_
          refine v_iald (n := 55) dX5_readAll_54 (show isA 46 240 from rfl) rfl ?_
          refine v_bipush (n := 57) (v := 59) dX5_readAll_55 cb_59 rfl ?_
          refine v_icmp_ne (tgt := 105) (n := 60) dX5_readAll_57 (by decide) rfl ?_ ?_
          · exact vjn_X5_readAll_60 G (lp_X5_readAll_22 x1v n) x1v kk hx ho ih μ
          · exact v_leaf (hx  μ)
set_option maxRecDepth 100000 in
set_option maxHeartbeats 4000000 in
theorem vjn_X5_readAll_129 (G : GG) (ih : Mem → Option ((Mem) ⊕ (Int32 × Mem))) (x1v : Int32) (kk : ((Mem) ⊕ (Int32 × Mem)) → Option Oc) (hx : ∀ (μ : Mem), V G J_X5_readAll 169 [(0, .ref (G.2.1 43)), (1, .int x1v)] [] μ (kk (.inl μ)) some) (ho : ∀ t, kk (.inr t) = some (oI t)) (hih : ∀ (μ : Mem), V G J_X5_readAll 105 [(0, .ref (G.2.1 43)), (1, .int x1v)] [] μ (ih  μ) kk) (μ : Mem) : V G J_X5_readAll 129 [(0, .ref (G.2.1 43)), (1, .int x1v)] [] μ (jn_X5_readAll_129 ih x1v μ) kk := by
  rw [jn_X5_readAll_129]
  refine v_aload_n (n := 130) dX5_readAll_129 rfl 0 rfl rfl ?_
  refine v_iload_n (n := 131) dX5_readAll_130 rfl 1 rfl rfl ?_
  refine v_bipush (n := 133) (v := 44) dX5_readAll_131 cb_44 rfl ?_
  refine v_cVi (n := 136) (st := []) [.int x1v, .int (44 : Int32)] dX5_readAll_133 (fun t ht => M_X5_isSign G x1v (44 : Int32) μ t ht) cal_X5_isSign mw163 (show isO 43 5 from rfl) rfl rfl (Nat.le_of_ble_eq_true rfl) ⟨Nat.le_of_ble_eq_true rfl, Nat.le_of_ble_eq_true rfl⟩ rfl (fun x14 μ13 => ?_)
  refine v_if_eq (tgt := 154) (n := 139) dX5_readAll_136 (by decide) rfl ?_ ?_
  · refine v_iconst (n := 155) (v := 0) dX5_readAll_154 ci_0 rfl ?_
    exact v_zret dX5_readAll_155 rfl (by decide) (ho _)
  · refine v_aload_n (n := 140) dX5_readAll_139 rfl 0 rfl rfl ?_
    refine v_iload_n (n := 141) dX5_readAll_140 rfl 1 rfl rfl ?_
    refine v_bipush (n := 143) (v := 7) dX5_readAll_141 cb_7 rfl ?_
    refine v_aload_n (n := 144) dX5_readAll_143 rfl 0 rfl rfl ?_
    refine v_getI (n := 147) (i := 17) dX5_readAll_144 (show isO 43 5 from rfl) rfl fg_X5_110 rfl ?_
    refine v_iadd (n := 148) dX5_readAll_147 rfl ?_
    refine v_cVi (n := 151) (st := []) [.int x1v, .int ((7 : Int32) + μ13 43 17)] dX5_readAll_148 (fun t ht => M_X5_readSentence G x1v ((7 : Int32) + μ13 43 17) μ13 t ht) cal_X5_readSentence mw165 (show isO 43 5 from rfl) rfl rfl (Nat.le_of_ble_eq_true rfl) ⟨Nat.le_of_ble_eq_true rfl, Nat.le_of_ble_eq_true rfl⟩ rfl (fun x16 μ15 => ?_)
    refine v_if_ne (tgt := 156) (n := 154) dX5_readAll_151 (by decide) rfl ?_ ?_
    · refine v_iconst (n := 155) (v := 0) dX5_readAll_154 ci_0 rfl ?_
      exact v_zret dX5_readAll_155 rfl (by decide) (ho _)
    · refine v_aload_n (n := 157) dX5_readAll_156 rfl 0 rfl rfl ?_
      refine v_dup (n := 158) dX5_readAll_157 rfl rfl ?_
      refine v_getI (n := 161) (i := 17) dX5_readAll_158 (show isO 43 5 from rfl) rfl fg_X5_110 rfl ?_
      refine v_iconst (n := 162) (v := 1) dX5_readAll_161 ci_1 rfl ?_
      refine v_iadd (n := 163) dX5_readAll_162 rfl ?_
      refine v_put (n := 166) (i := 17) dX5_readAll_163 (show isO 43 5 from rfl) rfl fp_X5_110 rfl rfl rfl ?_
      refine v_lm (fun μ17 => ?_)
      refine v_goto (tgt := 105) dX5_readAll_166 (by decide) ?_
      exact hih  μ17
set_option maxRecDepth 100000 in
set_option maxHeartbeats 4000000 in
theorem vlp_X5_readAll_105 (G : GG) (x1v : Int32) (kk : ((Mem) ⊕ (Int32 × Mem)) → Option Oc) (hx : ∀ (μ : Mem), V G J_X5_readAll 169 [(0, .ref (G.2.1 43)), (1, .int x1v)] [] μ (kk (.inl μ)) some) (ho : ∀ t, kk (.inr t) = some (oI t)) : ∀ (n : Nat) (μ : Mem), V G J_X5_readAll 105 [(0, .ref (G.2.1 43)), (1, .int x1v)] [] μ (lp_X5_readAll_105 x1v n  μ) kk := by
  intro n
  induction n with
  | zero => intro _; exact v_none
  | succ n ih =>
    intro μ
    rw [lp_X5_readAll_105]
    refine v_aload_n (n := 106) dX5_readAll_105 rfl 0 rfl rfl ?_
    refine v_getI (n := 109) (i := 17) dX5_readAll_106 (show isO 43 5 from rfl) rfl fg_X5_110 rfl ?_
    refine v_if_eq (tgt := 129) (n := 112) dX5_readAll_109 (by decide) rfl ?_ ?_
    · exact vjn_X5_readAll_129 G (lp_X5_readAll_105 x1v n) x1v kk hx ho ih μ
    · refine v_aload_n (n := 113) dX5_readAll_112 rfl 0 rfl rfl ?_
      refine v_getI (n := 116) (i := 17) dX5_readAll_113 (show isO 43 5 from rfl) rfl fg_X5_110 rfl ?_
      refine v_bipush (n := 118) (v := 7) dX5_readAll_116 cb_7 rfl ?_
      refine v_icmp_ge (tgt := 169) (n := 121) dX5_readAll_118 (by decide) rfl ?_ ?_
      · exact v_leaf (hx  μ)
      · refine v_aload_n (n := 122) dX5_readAll_121 rfl 0 rfl rfl ?_
        refine v_getI (n := 125) (i := 15) dX5_readAll_122 (show isO 43 5 from rfl) rfl fg_X5_86 rfl ?_
        refine v_iload_n (n := 126) dX5_readAll_125 rfl 1 rfl rfl ?_
        refine v_icmp_ge (tgt := 169) (n := 129) dX5_readAll_126 (by decide) rfl ?_ ?_
        · exact v_leaf (hx  μ)
        · exact vjn_X5_readAll_129 G (lp_X5_readAll_105 x1v n) x1v kk hx ho ih μ
set_option maxRecDepth 100000 in
set_option maxHeartbeats 4000000 in
theorem vjn_X5_readAll_169 (G : GG) (x1v : Int32) (μ : Mem) : V G J_X5_readAll 169 [(0, .ref (G.2.1 43)), (1, .int x1v)] [] μ (jn_X5_readAll_169 x1v μ) kI := by
  rw [jn_X5_readAll_169]
  refine v_aload_n (n := 170) dX5_readAll_169 rfl 0 rfl rfl ?_
  refine v_getI (n := 173) (i := 15) dX5_readAll_170 (show isO 43 5 from rfl) rfl fg_X5_86 rfl ?_
  refine v_iload_n (n := 174) dX5_readAll_173 rfl 1 rfl rfl ?_
  refine v_icmp_ne (tgt := 181) (n := 177) dX5_readAll_174 (by decide) rfl ?_ ?_
  · refine v_iconst (n := 178) (v := 1) dX5_readAll_177 ci_1 rfl ?_
    refine v_goto (tgt := 182) dX5_readAll_178 (by decide) ?_
    exact v_zret dX5_readAll_182 rfl (by decide) rfl
  · refine v_iconst (n := 182) (v := 0) dX5_readAll_181 ci_0 rfl ?_
    exact v_zret dX5_readAll_182 rfl (by decide) rfl
set_option maxRecDepth 100000 in
set_option maxHeartbeats 4000000 in
theorem vjn_X5_readAll_105 (G : GG) (x1v : Int32) (μ : Mem) : V G J_X5_readAll 105 [(0, .ref (G.2.1 43)), (1, .int x1v)] [] μ (jn_X5_readAll_105 x1v μ) kI := by
  rw [jn_X5_readAll_105]
  refine v_s1 (px := 169) (lx := (fun μ18 => [(0, .ref (G.2.1 43)), (1, .int x1v)])) (mx := (fun μ18 => μ18)) (oX := oI) (fun kk hx ho => vlp_X5_readAll_105 G x1v kk hx ho FU  μ) (fun _ => rfl) (fun μ18 => ?_)
  exact vjn_X5_readAll_169 G x1v μ18
set_option maxRecDepth 100000 in
set_option maxHeartbeats 4000000 in
theorem v_X5_readAll (G : GG) (a1 : Int32) (μ : Mem) : V G J_X5_readAll 0 [(0, .ref (G.2.1 43)), (1, .int a1)] [] μ (f_X5_readAll a1 μ) kI := by
  rw [f_X5_readAll]
  refine v_aload_n (n := 1) dX5_readAll_0 rfl 0 rfl rfl ?_
  refine v_iconst (n := 2) (v := 0) dX5_readAll_1 ci_0 rfl ?_
  refine v_put (n := 5) (i := 16) dX5_readAll_2 (show isO 43 5 from rfl) rfl fp_X5_107 rfl rfl rfl ?_
  refine v_lm (fun μ1 => ?_)
  refine v_aload_n (n := 6) dX5_readAll_5 rfl 0 rfl rfl ?_
  refine v_iconst (n := 7) (v := 0) dX5_readAll_6 ci_0 rfl ?_
  refine v_put (n := 10) (i := 17) dX5_readAll_7 (show isO 43 5 from rfl) rfl fp_X5_110 rfl rfl rfl ?_
  refine v_lm (fun μ2 => ?_)
  refine v_aload_n (n := 11) dX5_readAll_10 rfl 0 rfl rfl ?_
  refine v_iload_n (n := 12) dX5_readAll_11 rfl 1 rfl rfl ?_
  refine v_bipush (n := 14) (v := 98) dX5_readAll_12 cb_98 rfl ?_
  refine v_cVi (n := 17) (st := []) [.int a1, .int (98 : Int32)] dX5_readAll_14 (fun t ht => M_X5_isSign G a1 (98 : Int32) μ2 t ht) cal_X5_isSign mw163 (show isO 43 5 from rfl) rfl rfl (Nat.le_of_ble_eq_true rfl) ⟨Nat.le_of_ble_eq_true rfl, Nat.le_of_ble_eq_true rfl⟩ rfl (fun x4 μ3 => ?_)
  refine v_if_ne (tgt := 22) (n := 20) dX5_readAll_17 (by decide) rfl ?_ ?_
  · refine v_iconst (n := 21) (v := 0) dX5_readAll_20 ci_0 rfl ?_
    exact v_zret dX5_readAll_21 rfl (by decide) rfl
  · refine v_s1 (px := 105) (lx := (fun μ12 => [(0, .ref (G.2.1 43)), (1, .int a1)])) (mx := (fun μ12 => μ12)) (oX := oI) (fun kk hx ho => vlp_X5_readAll_22 G a1 kk hx ho FU  μ3) (fun _ => rfl) (fun μ12 => ?_)
    exact vjn_X5_readAll_105 G a1 μ12
theorem M_X5_readAll (G : GG) (a1 : Int32) (μ : Mem) (t : Int32 × Mem) (ht : f_X5_readAll a1 μ = some t) : GM G J_X5_readAll yX5_readAll [.ref (G.2.1 43), .int a1] μ (oI t) :=
  gm_of (J := J_X5_readAll) (k := kI) rfl (by decide) (Nat.le_of_ble_eq_true rfl) (v_X5_readAll G a1 μ) ht rfl
set_option maxRecDepth 100000 in
set_option maxHeartbeats 4000000 in
theorem vlp_X5_books_103 (G : GG) (kk : (Mem) → Option Oc) (hx : ∀ (μ : Mem), V G J_X5_books 192 [(0, .ref (G.2.1 43))] [] μ (kk μ) some) : ∀ (n : Nat) (x7v : Int32) (μ : Mem), V G J_X5_books 103 [(0, .ref (G.2.1 43)), (7, .int x7v)] [] μ (lp_X5_books_103 n x7v μ) kk := by
  intro n
  induction n with
  | zero => intro _ _; exact v_none
  | succ n ih =>
    intro x7v μ
    rw [lp_X5_books_103]
    refine v_iload (n := 105) dX5_books_103 1 rfl rfl ?_
    refine v_bipush (n := 107) (v := 7) dX5_books_105 cb_7 rfl ?_
    refine v_icmp_ge (tgt := 192) (n := 110) dX5_books_107 (by decide) rfl ?_ ?_
    · exact v_leaf (v_sub [0] rfl (hx  μ))
    · refine v_aload_n (n := 111) dX5_books_110 rfl 0 rfl rfl ?_
      refine v_getR (n := 114) (i := 10) (q2 := 47) dX5_books_111 (show isO 43 5 from rfl) rfl fg_X5_19 rfl ?_
      refine v_iload (n := 116) dX5_books_114 1 rfl rfl ?_
      refine v_aload_n (n := 117) dX5_books_116 rfl 0 rfl rfl ?_
      refine v_getR (n := 120) (i := 18) (q2 := 52) dX5_books_117 (show isO 43 5 from rfl) rfl fg_X5_34 rfl ?_
      refine v_iload (n := 122) dX5_books_120 1 rfl rfl ?_
      refine v_iald (n := 123) dX5_books_122 (show isA 52 7 from rfl) rfl ?_
      refine v_iast (n := 124) dX5_books_123 (show isA 47 7 from rfl) rfl ?_
      refine v_lm (fun μ14 => ?_)
      refine v_aload_n (n := 125) dX5_books_124 rfl 0 rfl rfl ?_
      refine v_getR (n := 128) (i := 11) (q2 := 48) dX5_books_125 (show isO 43 5 from rfl) rfl fg_X5_22 rfl ?_
      refine v_iload (n := 130) dX5_books_128 1 rfl rfl ?_
      refine v_aload_n (n := 131) dX5_books_130 rfl 0 rfl rfl ?_
      refine v_getR (n := 134) (i := 19) (q2 := 53) dX5_books_131 (show isO 43 5 from rfl) rfl fg_X5_37 rfl ?_
      refine v_iload (n := 136) dX5_books_134 1 rfl rfl ?_
      refine v_iald (n := 137) dX5_books_136 (show isA 53 14 from rfl) rfl ?_
      refine v_iast (n := 138) dX5_books_137 (show isA 48 7 from rfl) rfl ?_
      refine v_lm (fun μ15 => ?_)
      refine v_aload_n (n := 139) dX5_books_138 rfl 0 rfl rfl ?_
      refine v_getR (n := 142) (i := 12) (q2 := 49) dX5_books_139 (show isO 43 5 from rfl) rfl fg_X5_25 rfl ?_
      refine v_iload (n := 144) dX5_books_142 1 rfl rfl ?_
      refine v_aload_n (n := 145) dX5_books_144 rfl 0 rfl rfl ?_
      refine v_getR (n := 148) (i := 20) (q2 := 54) dX5_books_145 (show isO 43 5 from rfl) rfl fg_X5_40 rfl ?_
      refine v_iload (n := 150) dX5_books_148 1 rfl rfl ?_
      refine v_iald (n := 151) dX5_books_150 (show isA 54 14 from rfl) rfl ?_
      refine v_iast (n := 152) dX5_books_151 (show isA 49 7 from rfl) rfl ?_
      refine v_lm (fun μ16 => ?_)
      refine v_aload_n (n := 153) dX5_books_152 rfl 0 rfl rfl ?_
      refine v_getR (n := 156) (i := 13) (q2 := 50) dX5_books_153 (show isO 43 5 from rfl) rfl fg_X5_28 rfl ?_
      refine v_iload (n := 158) dX5_books_156 1 rfl rfl ?_
      refine v_aload_n (n := 159) dX5_books_158 rfl 0 rfl rfl ?_
      refine v_getR (n := 162) (i := 19) (q2 := 53) dX5_books_159 (show isO 43 5 from rfl) rfl fg_X5_37 rfl ?_
      refine v_bipush (n := 164) (v := 7) dX5_books_162 cb_7 rfl ?_
      refine v_iload (n := 166) dX5_books_164 1 rfl rfl ?_
      refine v_iadd (n := 167) dX5_books_166 rfl ?_
      refine v_iald (n := 168) dX5_books_167 (show isA 53 14 from rfl) rfl ?_
      refine v_iast (n := 169) dX5_books_168 (show isA 50 7 from rfl) rfl ?_
      refine v_lm (fun μ17 => ?_)
      refine v_aload_n (n := 170) dX5_books_169 rfl 0 rfl rfl ?_
      refine v_getR (n := 173) (i := 14) (q2 := 51) dX5_books_170 (show isO 43 5 from rfl) rfl fg_X5_31 rfl ?_
      refine v_iload (n := 175) dX5_books_173 1 rfl rfl ?_
      refine v_aload_n (n := 176) dX5_books_175 rfl 0 rfl rfl ?_
      refine v_getR (n := 179) (i := 20) (q2 := 54) dX5_books_176 (show isO 43 5 from rfl) rfl fg_X5_40 rfl ?_
      refine v_bipush (n := 181) (v := 7) dX5_books_179 cb_7 rfl ?_
      refine v_iload (n := 183) dX5_books_181 1 rfl rfl ?_
      refine v_iadd (n := 184) dX5_books_183 rfl ?_
      refine v_iald (n := 185) dX5_books_184 (show isA 54 14 from rfl) rfl ?_
      refine v_iast (n := 186) dX5_books_185 (show isA 51 7 from rfl) rfl ?_
      refine v_lm (fun μ18 => ?_)
      refine v_iinc (n := 189) (w := 1) (fun x19 => [(7, .int x19), (0, .ref (G.2.1 43))]) dX5_books_186 1 rfl ci_1 (by decide) (fun _ => rfl) rfl (fun x19 => ?_)
      refine v_goto (tgt := 103) dX5_books_189 (by decide) ?_
      exact v_sub [1, 0] rfl (ih x19 μ18)
set_option maxRecDepth 100000 in
set_option maxHeartbeats 4000000 in
theorem v_X5_books (G : GG) (a1 : Int32) (a2 : Int32) (a3 : Int32) (a4 : Int32) (μ : Mem) : V G J_X5_books 0 [(0, .ref (G.2.1 43)), (1, .int a1), (2, .int a2), (3, .int a3), (4, .int a4)] [] μ (f_X5_books a1 a2 a3 a4 μ) kI := by
  rw [f_X5_books]
  refine v_aload_n (n := 1) dX5_books_0 rfl 0 rfl rfl ?_
  refine v_iconst (n := 2) (v := 0) dX5_books_1 ci_0 rfl ?_
  refine v_put (n := 5) (i := 0) dX5_books_2 (show isO 43 5 from rfl) rfl fp_X5_70 rfl rfl rfl ?_
  refine v_lm (fun μ1 => ?_)
  refine v_iload_n (n := 6) dX5_books_5 rfl 1 rfl rfl ?_
  refine v_cSi (n := 9) (st := []) [.int a1] dX5_books_6 (fun t ht => M_X5_isSheet G a1 μ1 t ht) cal_X5_isSheet mw166 rfl rfl (Nat.le_of_ble_eq_true rfl) ⟨Nat.le_of_ble_eq_true rfl, Nat.le_of_ble_eq_true rfl⟩ rfl (fun x3 μ2 => ?_)
  refine v_if_ne (tgt := 14) (n := 12) dX5_books_9 (by decide) rfl ?_ ?_
  · refine v_iconst (n := 13) (v := -1) dX5_books_12 ci_m1 rfl ?_
    exact v_iret dX5_books_13 rfl rfl
  · refine v_iload_n (n := 15) dX5_books_14 rfl 2 rfl rfl ?_
    refine v_cSi (n := 18) (st := []) [.int a2] dX5_books_15 (fun t ht => M_X5_isSort G a2 μ2 t ht) cal_X5_isSort mw167 rfl rfl (Nat.le_of_ble_eq_true rfl) ⟨Nat.le_of_ble_eq_true rfl, Nat.le_of_ble_eq_true rfl⟩ rfl (fun x5 μ4 => ?_)
    refine v_if_ne (tgt := 24) (n := 21) dX5_books_18 (by decide) rfl ?_ ?_
    · refine v_bipush (n := 23) (v := -2) dX5_books_21 cb_m2 rfl ?_
      exact v_iret dX5_books_23 rfl rfl
    · refine v_aload_n (n := 25) dX5_books_24 rfl 0 rfl rfl ?_
      refine v_iload_n (n := 26) dX5_books_25 rfl 1 rfl rfl ?_
      refine v_iload_n (n := 27) dX5_books_26 rfl 2 rfl rfl ?_
      refine v_iload_n (n := 28) dX5_books_27 rfl 3 rfl rfl ?_
      refine v_iload (n := 30) dX5_books_28 4 rfl rfl ?_
      refine v_cVi (n := 33) (st := []) [.int a1, .int a2, .int a3, .int a4] dX5_books_30 (fun t ht => M_X5_against G a1 a2 a3 a4 μ4 t ht) cal_X5_against mw168 (show isO 43 5 from rfl) rfl rfl (Nat.le_of_ble_eq_true rfl) ⟨Nat.le_of_ble_eq_true rfl, Nat.le_of_ble_eq_true rfl⟩ rfl (fun x7 μ6 => ?_)
      refine v_istore (n := 35) [(5, .int x7), (0, .ref (G.2.1 43)), (1, .int a1), (2, .int a2), (3, .int a3), (4, .int a4)] dX5_books_33 (by decide) rfl rfl ?_
      refine v_iload (n := 37) dX5_books_35 0 rfl rfl ?_
      refine v_if_eq (tgt := 47) (n := 40) dX5_books_37 (by decide) rfl ?_ ?_
      · refine v_bipush (n := 49) (v := 60) dX5_books_47 cb_60 rfl ?_
        refine v_iload_n (n := 50) dX5_books_49 rfl 2 rfl rfl ?_
        refine v_imul (n := 51) dX5_books_50 rfl ?_
        refine v_iload_n (n := 52) dX5_books_51 rfl 4 rfl rfl ?_
        refine v_iadd (n := 53) dX5_books_52 rfl ?_
        refine v_lt (fun x8 => ?_)
        refine v_istore (n := 55) [(6, .int x8), (5, .int x7), (0, .ref (G.2.1 43)), (1, .int a1), (2, .int a2), (3, .int a3), (4, .int a4)] dX5_books_53 (by decide) rfl rfl ?_
        refine v_aload_n (n := 56) dX5_books_55 rfl 2 rfl rfl ?_
        refine v_iload (n := 58) dX5_books_56 0 rfl rfl ?_
        refine v_put (n := 61) (i := 15) dX5_books_58 (show isO 43 5 from rfl) rfl fp_X5_86 rfl rfl rfl ?_
        refine v_lm (fun μ9 => ?_)
        refine v_aload_n (n := 62) dX5_books_61 rfl 2 rfl rfl ?_
        refine v_iload (n := 64) dX5_books_62 0 rfl rfl ?_
        refine v_iload (n := 66) dX5_books_64 6 rfl rfl ?_
        refine v_iadd (n := 67) dX5_books_66 rfl ?_
        refine v_cVi (n := 70) (st := []) [.int (x8 + a4)] dX5_books_67 (fun t ht => M_X5_readAll G (x8 + a4) μ9 t ht) cal_X5_readAll mw169 (show isO 43 5 from rfl) rfl rfl (Nat.le_of_ble_eq_true rfl) ⟨Nat.le_of_ble_eq_true rfl, Nat.le_of_ble_eq_true rfl⟩ rfl (fun x11 μ10 => ?_)
        refine v_if_ne (tgt := 84) (n := 73) dX5_books_70 (by decide) rfl ?_ ?_
        · refine v_bipush (n := 75) (v := -100) dX5_books_73 cb_m100 rfl ?_
          refine v_aload_n (n := 76) dX5_books_75 rfl 2 rfl rfl ?_
          refine v_getI (n := 79) (i := 15) dX5_books_76 (show isO 43 5 from rfl) rfl fg_X5_86 rfl ?_
          refine v_iload (n := 81) dX5_books_79 0 rfl rfl ?_
          refine v_isub (n := 82) dX5_books_81 rfl ?_
          refine v_isub (n := 83) dX5_books_82 rfl ?_
          exact v_iret dX5_books_83 rfl rfl
        · refine v_aload_n (n := 85) dX5_books_84 rfl 2 rfl rfl ?_
          refine v_aload_n (n := 86) dX5_books_85 rfl 2 rfl rfl ?_
          refine v_getI (n := 89) (i := 16) dX5_books_86 (show isO 43 5 from rfl) rfl fg_X5_107 rfl ?_
          refine v_put (n := 92) (i := 5) dX5_books_89 (show isO 43 5 from rfl) rfl fp_X5_80 rfl rfl rfl ?_
          refine v_lm (fun μ12 => ?_)
          refine v_aload_n (n := 93) dX5_books_92 rfl 2 rfl rfl ?_
          refine v_aload_n (n := 94) dX5_books_93 rfl 2 rfl rfl ?_
          refine v_getI (n := 97) (i := 17) dX5_books_94 (show isO 43 5 from rfl) rfl fg_X5_110 rfl ?_
          refine v_put (n := 100) (i := 6) dX5_books_97 (show isO 43 5 from rfl) rfl fp_X5_83 rfl rfl rfl ?_
          refine v_lm (fun μ13 => ?_)
          refine v_iconst (n := 101) (v := 0) dX5_books_100 ci_0 rfl ?_
          refine v_istore (n := 103) [(7, .int (0 : Int32)), (6, .int x8), (5, .int x7), (0, .ref (G.2.1 43)), (1, .int a1), (2, .int a2), (3, .int a3), (4, .int a4)] dX5_books_101 (by decide) rfl rfl ?_
          refine v_sub [3, 0] rfl ?_
          refine v_x1 (px := 192) (lx := (fun μ20 => [(0, .ref (G.2.1 43))])) (mx := (fun μ20 => μ20)) (fun kk hx => vlp_X5_books_103 G  kk hx FU (0 : Int32) μ13) (fun μ20 => ?_)
          refine v_aload_n (n := 193) dX5_books_192 rfl 0 rfl rfl ?_
          refine v_iconst (n := 194) (v := 4) dX5_books_193 ci_4 rfl ?_
          refine v_put (n := 197) (i := 7) dX5_books_194 (show isO 43 5 from rfl) rfl fp_X5_113 rfl rfl rfl ?_
          refine v_lm (fun μ21 => ?_)
          refine v_aload_n (n := 198) dX5_books_197 rfl 0 rfl rfl ?_
          refine v_iconst (n := 199) (v := 1) dX5_books_198 ci_1 rfl ?_
          refine v_put (n := 202) (i := 8) dX5_books_199 (show isO 43 5 from rfl) rfl fp_X5_116 rfl rfl rfl ?_
          refine v_lm (fun μ22 => ?_)
          refine v_aload_n (n := 203) dX5_books_202 rfl 0 rfl rfl ?_
          refine v_bipush (n := 205) (v := 7) dX5_books_203 cb_7 rfl ?_
          refine v_put (n := 208) (i := 9) dX5_books_205 (show isO 43 5 from rfl) rfl fp_X5_119 rfl rfl rfl ?_
          refine v_lm (fun μ23 => ?_)
          refine v_aload_n (n := 209) dX5_books_208 rfl 0 rfl rfl ?_
          refine v_iconst (n := 210) (v := 0) dX5_books_209 ci_0 rfl ?_
          refine v_put (n := 213) (i := 29) dX5_books_210 (show isO 43 5 from rfl) rfl fp_X5_122 rfl rfl rfl ?_
          refine v_lm (fun μ24 => ?_)
          refine v_aload_n (n := 214) dX5_books_213 rfl 0 rfl rfl ?_
          refine v_getI (n := 217) (i := 5) dX5_books_214 (show isO 43 5 from rfl) rfl fg_X5_80 rfl ?_
          refine v_aload_n (n := 218) dX5_books_217 rfl 0 rfl rfl ?_
          refine v_getI (n := 221) (i := 6) dX5_books_218 (show isO 43 5 from rfl) rfl fg_X5_83 rfl ?_
          refine v_iadd (n := 222) dX5_books_221 rfl ?_
          exact v_iret dX5_books_222 rfl rfl
      · refine v_aload_n (n := 41) dX5_books_40 rfl 1 rfl rfl ?_
        refine v_iload (n := 43) dX5_books_41 0 rfl rfl ?_
        refine v_cVi (n := 46) (st := []) [.int x7] dX5_books_43 (fun t ht => M_X5_fails G x7 μ6 t ht) cal_X5_fails mw179 (show isO 43 5 from rfl) rfl rfl (Nat.le_of_ble_eq_true rfl) ⟨Nat.le_of_ble_eq_true rfl, Nat.le_of_ble_eq_true rfl⟩ rfl (fun x26 μ25 => ?_)
        exact v_iret dX5_books_46 rfl rfl
theorem M_X5_books (G : GG) (a1 : Int32) (a2 : Int32) (a3 : Int32) (a4 : Int32) (μ : Mem) (t : Int32 × Mem) (ht : f_X5_books a1 a2 a3 a4 μ = some t) : GM G J_X5_books yX5_books [.ref (G.2.1 43), .int a1, .int a2, .int a3, .int a4] μ (oI t) :=
  gm_of (J := J_X5_books) (k := kI) rfl (by decide) (Nat.le_of_ble_eq_true rfl) (v_X5_books G a1 a2 a3 a4 μ) ht rfl
set_option maxRecDepth 100000 in
set_option maxHeartbeats 4000000 in
theorem v_X5_lengthOf (G : GG) (a1 : Int32) (μ : Mem) : V G J_X5_lengthOf 0 [(0, .ref (G.2.1 43)), (1, .int a1)] [] μ (f_X5_lengthOf a1 μ) kI := by
  rw [f_X5_lengthOf]
  refine v_aload_n (n := 1) dX5_lengthOf_0 rfl 0 rfl rfl ?_
  refine v_getR (n := 4) (i := 10) (q2 := 47) dX5_lengthOf_1 (show isO 43 5 from rfl) rfl fg_X5_19 rfl ?_
  refine v_iload_n (n := 5) dX5_lengthOf_4 rfl 1 rfl rfl ?_
  refine v_iald (n := 6) dX5_lengthOf_5 (show isA 47 7 from rfl) rfl ?_
  refine v_if_ne (tgt := 18) (n := 9) dX5_lengthOf_6 (by decide) rfl ?_ ?_
  · refine v_aload_n (n := 10) dX5_lengthOf_9 rfl 0 rfl rfl ?_
    refine v_getR (n := 13) (i := 11) (q2 := 48) dX5_lengthOf_10 (show isO 43 5 from rfl) rfl fg_X5_22 rfl ?_
    refine v_iload_n (n := 14) dX5_lengthOf_13 rfl 1 rfl rfl ?_
    refine v_iald (n := 15) dX5_lengthOf_14 (show isA 48 7 from rfl) rfl ?_
    refine v_goto (tgt := 47) dX5_lengthOf_15 (by decide) ?_
    exact v_iret dX5_lengthOf_47 rfl rfl
  · refine v_aload_n (n := 19) dX5_lengthOf_18 rfl 0 rfl rfl ?_
    refine v_getR (n := 22) (i := 10) (q2 := 47) dX5_lengthOf_19 (show isO 43 5 from rfl) rfl fg_X5_19 rfl ?_
    refine v_iload_n (n := 23) dX5_lengthOf_22 rfl 1 rfl rfl ?_
    refine v_iald (n := 24) dX5_lengthOf_23 (show isA 47 7 from rfl) rfl ?_
    refine v_iconst (n := 25) (v := 1) dX5_lengthOf_24 ci_1 rfl ?_
    refine v_icmp_ne (tgt := 39) (n := 28) dX5_lengthOf_25 (by decide) rfl ?_ ?_
    · refine v_aload_n (n := 29) dX5_lengthOf_28 rfl 0 rfl rfl ?_
      refine v_getR (n := 32) (i := 11) (q2 := 48) dX5_lengthOf_29 (show isO 43 5 from rfl) rfl fg_X5_22 rfl ?_
      refine v_iload_n (n := 33) dX5_lengthOf_32 rfl 1 rfl rfl ?_
      refine v_iald (n := 34) dX5_lengthOf_33 (show isA 48 7 from rfl) rfl ?_
      refine v_iconst (n := 35) (v := 1) dX5_lengthOf_34 ci_1 rfl ?_
      refine v_iadd (n := 36) dX5_lengthOf_35 rfl ?_
      refine v_goto (tgt := 47) dX5_lengthOf_36 (by decide) ?_
      exact v_iret dX5_lengthOf_47 rfl rfl
    · refine v_iconst (n := 40) (v := 2) dX5_lengthOf_39 ci_2 rfl ?_
      refine v_aload_n (n := 41) dX5_lengthOf_40 rfl 0 rfl rfl ?_
      refine v_getR (n := 44) (i := 11) (q2 := 48) dX5_lengthOf_41 (show isO 43 5 from rfl) rfl fg_X5_22 rfl ?_
      refine v_iload_n (n := 45) dX5_lengthOf_44 rfl 1 rfl rfl ?_
      refine v_iald (n := 46) dX5_lengthOf_45 (show isA 48 7 from rfl) rfl ?_
      refine v_imul (n := 47) dX5_lengthOf_46 rfl ?_
      exact v_iret dX5_lengthOf_47 rfl rfl
theorem M_X5_lengthOf (G : GG) (a1 : Int32) (μ : Mem) (t : Int32 × Mem) (ht : f_X5_lengthOf a1 μ = some t) : GM G J_X5_lengthOf yX5_lengthOf [.ref (G.2.1 43), .int a1] μ (oI t) :=
  gm_of (J := J_X5_lengthOf) (k := kI) rfl (by decide) (Nat.le_of_ble_eq_true rfl) (v_X5_lengthOf G a1 μ) ht rfl
set_option maxRecDepth 100000 in
set_option maxHeartbeats 4000000 in
theorem v_X5_leftsOf (G : GG) (a0 : Int32) (μ : Mem) : V G J_X5_leftsOf 0 [(0, .int a0)] [] μ (f_X5_leftsOf a0 μ) kI := by
  rw [f_X5_leftsOf]
  refine v_iload_n (n := 1) dX5_leftsOf_0 rfl 0 rfl rfl ?_
  refine v_iconst (n := 2) (v := 2) dX5_leftsOf_1 ci_2 rfl ?_
  refine v_icmp_ne (tgt := 9) (n := 5) dX5_leftsOf_2 (by decide) rfl ?_ ?_
  · refine v_iconst (n := 6) (v := 0) dX5_leftsOf_5 ci_0 rfl ?_
    refine v_goto (tgt := 19) dX5_leftsOf_6 (by decide) ?_
    exact v_iret dX5_leftsOf_19 rfl rfl
  · refine v_iload_n (n := 10) dX5_leftsOf_9 rfl 0 rfl rfl ?_
    refine v_iconst (n := 11) (v := 3) dX5_leftsOf_10 ci_3 rfl ?_
    refine v_icmp_ne (tgt := 18) (n := 14) dX5_leftsOf_11 (by decide) rfl ?_ ?_
    · refine v_iconst (n := 15) (v := 2) dX5_leftsOf_14 ci_2 rfl ?_
      refine v_goto (tgt := 19) dX5_leftsOf_15 (by decide) ?_
      exact v_iret dX5_leftsOf_19 rfl rfl
    · refine v_iconst (n := 19) (v := 1) dX5_leftsOf_18 ci_1 rfl ?_
      exact v_iret dX5_leftsOf_19 rfl rfl
theorem M_X5_leftsOf (G : GG) (a0 : Int32) (μ : Mem) (t : Int32 × Mem) (ht : f_X5_leftsOf a0 μ = some t) : GM G J_X5_leftsOf yX5_leftsOf [.int a0] μ (oI t) :=
  gm_of (J := J_X5_leftsOf) (k := kI) rfl (by decide) (Nat.le_of_ble_eq_true rfl) (v_X5_leftsOf G a0 μ) ht rfl
set_option maxRecDepth 100000 in
set_option maxHeartbeats 4000000 in
theorem v_X5_rightsOf (G : GG) (a0 : Int32) (μ : Mem) : V G J_X5_rightsOf 0 [(0, .int a0)] [] μ (f_X5_rightsOf a0 μ) kI := by
  rw [f_X5_rightsOf]
  refine v_iload_n (n := 1) dX5_rightsOf_0 rfl 0 rfl rfl ?_
  refine v_iconst (n := 2) (v := 1) dX5_rightsOf_1 ci_1 rfl ?_
  refine v_icmp_ne (tgt := 9) (n := 5) dX5_rightsOf_2 (by decide) rfl ?_ ?_
  · refine v_iconst (n := 6) (v := 0) dX5_rightsOf_5 ci_0 rfl ?_
    refine v_goto (tgt := 19) dX5_rightsOf_6 (by decide) ?_
    exact v_iret dX5_rightsOf_19 rfl rfl
  · refine v_iload_n (n := 10) dX5_rightsOf_9 rfl 0 rfl rfl ?_
    refine v_iconst (n := 11) (v := 4) dX5_rightsOf_10 ci_4 rfl ?_
    refine v_icmp_ne (tgt := 18) (n := 14) dX5_rightsOf_11 (by decide) rfl ?_ ?_
    · refine v_iconst (n := 15) (v := 2) dX5_rightsOf_14 ci_2 rfl ?_
      refine v_goto (tgt := 19) dX5_rightsOf_15 (by decide) ?_
      exact v_iret dX5_rightsOf_19 rfl rfl
    · refine v_iconst (n := 19) (v := 1) dX5_rightsOf_18 ci_1 rfl ?_
      exact v_iret dX5_rightsOf_19 rfl rfl
theorem M_X5_rightsOf (G : GG) (a0 : Int32) (μ : Mem) (t : Int32 × Mem) (ht : f_X5_rightsOf a0 μ = some t) : GM G J_X5_rightsOf yX5_rightsOf [.int a0] μ (oI t) :=
  gm_of (J := J_X5_rightsOf) (k := kI) rfl (by decide) (Nat.le_of_ble_eq_true rfl) (v_X5_rightsOf G a0 μ) ht rfl
set_option maxRecDepth 100000 in
set_option maxHeartbeats 4000000 in
theorem v_X5_anchorSet (G : GG) (a0 : Int32) (μ : Mem) : V G J_X5_anchorSet 0 [(0, .int a0)] [] μ (f_X5_anchorSet a0 μ) kI := by
  rw [f_X5_anchorSet]
  refine v_iload_n (n := 1) dX5_anchorSet_0 rfl 0 rfl rfl ?_
  refine v_iconst (n := 2) (v := 4) dX5_anchorSet_1 ci_4 rfl ?_
  refine v_icmp_ne (tgt := 9) (n := 5) dX5_anchorSet_2 (by decide) rfl ?_ ?_
  · refine v_iconst (n := 6) (v := 0) dX5_anchorSet_5 ci_0 rfl ?_
    refine v_goto (tgt := 12) dX5_anchorSet_6 (by decide) ?_
    exact v_iret dX5_anchorSet_12 rfl rfl
  · refine v_iconst (n := 10) (v := 1) dX5_anchorSet_9 ci_1 rfl ?_
    refine v_iload_n (n := 11) dX5_anchorSet_10 rfl 0 rfl rfl ?_
    refine v_ishl (n := 12) dX5_anchorSet_11 rfl ?_
    exact v_iret dX5_anchorSet_12 rfl rfl
theorem M_X5_anchorSet (G : GG) (a0 : Int32) (μ : Mem) (t : Int32 × Mem) (ht : f_X5_anchorSet a0 μ = some t) : GM G J_X5_anchorSet yX5_anchorSet [.int a0] μ (oI t) :=
  gm_of (J := J_X5_anchorSet) (k := kI) rfl (by decide) (Nat.le_of_ble_eq_true rfl) (v_X5_anchorSet G a0 μ) ht rfl
set_option maxRecDepth 100000 in
set_option maxHeartbeats 4000000 in
theorem vlp_X5_costOf_45 (G : GG) (x1v : Int32) (x2v : Int32) (x3v : Int32) (x6v : Int32) (kk : (Int32 × Int32 × Mem) → Option Oc) (hx : ∀ (x4v : Int32) (x5v : Int32) (μ : Mem), V G J_X5_costOf 88 [(0, .ref (G.2.1 43)), (1, .int x1v), (3, .int x3v), (4, .int x4v), (5, .int x5v), (6, .int x6v)] [] μ (kk (x4v, x5v, μ)) some) : ∀ (n : Nat) (x4v : Int32) (x5v : Int32) (x7v : Int32) (μ : Mem), V G J_X5_costOf 45 [(0, .ref (G.2.1 43)), (1, .int x1v), (2, .int x2v), (3, .int x3v), (4, .int x4v), (5, .int x5v), (6, .int x6v), (7, .int x7v)] [] μ (lp_X5_costOf_45 x1v x2v x3v x6v n x4v x5v x7v μ) kk := by
  intro n
  induction n with
  | zero => intro _ _ _ _; exact v_none
  | succ n ih =>
    intro x4v x5v x7v μ
    rw [lp_X5_costOf_45]
    refine v_iload (n := 47) dX5_costOf_45 7 rfl rfl ?_
    refine v_iload_n (n := 48) dX5_costOf_47 rfl 2 rfl rfl ?_
    refine v_iload_n (n := 49) dX5_costOf_48 rfl 1 rfl rfl ?_
    refine v_cSi (n := 52) (st := [.int x2v, .int x7v]) [.int x1v] dX5_costOf_49 (fun t ht => M_X5_leftsOf G x1v μ t ht) cal_X5_leftsOf mw180 rfl rfl (Nat.le_of_ble_eq_true rfl) ⟨Nat.le_of_ble_eq_true rfl, Nat.le_of_ble_eq_true rfl⟩ rfl (fun x2 μ1 => ?_)
    refine v_iadd (n := 53) dX5_costOf_52 rfl ?_
    refine v_icmp_ge (tgt := 88) (n := 56) dX5_costOf_53 (by decide) rfl ?_ ?_
    · exact v_leaf (v_sub [0, 1, 3, 4, 5, 6] rfl (hx x4v x5v μ1))
    · refine v_iload (n := 58) dX5_costOf_56 4 rfl rfl ?_
      refine v_aload_n (n := 59) dX5_costOf_58 rfl 0 rfl rfl ?_
      refine v_iload (n := 61) dX5_costOf_59 7 rfl rfl ?_
      refine v_cVi (n := 64) (st := [.int x4v]) [.int x7v] dX5_costOf_61 (fun t ht => M_X5_lengthOf G x7v μ1 t ht) cal_X5_lengthOf mw181 (show isO 43 5 from rfl) rfl rfl (Nat.le_of_ble_eq_true rfl) ⟨Nat.le_of_ble_eq_true rfl, Nat.le_of_ble_eq_true rfl⟩ rfl (fun x4 μ3 => ?_)
      refine v_iadd (n := 65) dX5_costOf_64 rfl ?_
      refine v_lt (fun x5 => ?_)
      refine v_istore (n := 67) [(4, .int x5), (0, .ref (G.2.1 43)), (1, .int x1v), (2, .int x2v), (3, .int x3v), (5, .int x5v), (6, .int x6v), (7, .int x7v)] dX5_costOf_65 (by decide) rfl rfl ?_
      refine v_iload (n := 69) dX5_costOf_67 5 rfl rfl ?_
      refine v_aload_n (n := 70) dX5_costOf_69 rfl 1 rfl rfl ?_
      refine v_getR (n := 73) (i := 12) (q2 := 49) dX5_costOf_70 (show isO 43 5 from rfl) rfl fg_X5_25 rfl ?_
      refine v_iload (n := 75) dX5_costOf_73 7 rfl rfl ?_
      refine v_iald (n := 76) dX5_costOf_75 (show isA 49 7 from rfl) rfl ?_
      refine v_cSi (n := 79) (st := [.int x5v]) [.int (μ3 49 x7v.toNatClampNeg)] dX5_costOf_76 (fun t ht => M_X5_anchorSet G (μ3 49 x7v.toNatClampNeg) μ3 t ht) cal_X5_anchorSet mw182 rfl rfl (Nat.le_of_ble_eq_true rfl) ⟨Nat.le_of_ble_eq_true rfl, Nat.le_of_ble_eq_true rfl⟩ rfl (fun x7 μ6 => ?_)
      refine v_ior (n := 80) dX5_costOf_79 rfl ?_
      refine v_lt (fun x8 => ?_)
      refine v_istore (n := 82) [(5, .int x8), (4, .int x5), (0, .ref (G.2.1 43)), (1, .int x1v), (2, .int x2v), (3, .int x3v), (6, .int x6v), (7, .int x7v)] dX5_costOf_80 (by decide) rfl rfl ?_
      refine v_iinc (n := 85) (w := 1) (fun x9 => [(7, .int x9), (5, .int x8), (4, .int x5), (0, .ref (G.2.1 43)), (1, .int x1v), (2, .int x2v), (3, .int x3v), (6, .int x6v)]) dX5_costOf_82 7 rfl ci_1 (by decide) (fun _ => rfl) rfl (fun x9 => ?_)
      refine v_goto (tgt := 45) dX5_costOf_85 (by decide) ?_
      exact v_sub [3, 4, 5, 6, 2, 1, 7, 0] rfl (ih x5 x8 x9 μ6)
set_option maxRecDepth 100000 in
set_option maxHeartbeats 4000000 in
theorem vlp_X5_costOf_91 (G : GG) (x1v : Int32) (x3v : Int32) (x5v : Int32) (kk : (Int32 × Int32 × Mem) → Option Oc) (hx : ∀ (x4v : Int32) (x6v : Int32) (μ : Mem), V G J_X5_costOf 135 [(0, .ref (G.2.1 43)), (1, .int x1v), (4, .int x4v), (5, .int x5v), (6, .int x6v)] [] μ (kk (x4v, x6v, μ)) some) : ∀ (n : Nat) (x4v : Int32) (x6v : Int32) (x7v : Int32) (μ : Mem), V G J_X5_costOf 91 [(0, .ref (G.2.1 43)), (1, .int x1v), (3, .int x3v), (4, .int x4v), (5, .int x5v), (6, .int x6v), (7, .int x7v)] [] μ (lp_X5_costOf_91 x1v x3v x5v n x4v x6v x7v μ) kk := by
  intro n
  induction n with
  | zero => intro _ _ _ _; exact v_none
  | succ n ih =>
    intro x4v x6v x7v μ
    rw [lp_X5_costOf_91]
    refine v_iload (n := 93) dX5_costOf_91 6 rfl rfl ?_
    refine v_iload_n (n := 94) dX5_costOf_93 rfl 2 rfl rfl ?_
    refine v_iload_n (n := 95) dX5_costOf_94 rfl 1 rfl rfl ?_
    refine v_cSi (n := 98) (st := [.int x3v, .int x7v]) [.int x1v] dX5_costOf_95 (fun t ht => M_X5_rightsOf G x1v μ t ht) cal_X5_rightsOf mw183 rfl rfl (Nat.le_of_ble_eq_true rfl) ⟨Nat.le_of_ble_eq_true rfl, Nat.le_of_ble_eq_true rfl⟩ rfl (fun x14 μ13 => ?_)
    refine v_iadd (n := 99) dX5_costOf_98 rfl ?_
    refine v_icmp_ge (tgt := 135) (n := 102) dX5_costOf_99 (by decide) rfl ?_ ?_
    · exact v_leaf (v_sub [0, 1, 3, 4, 5] rfl (hx x4v x6v μ13))
    · refine v_iload (n := 104) dX5_costOf_102 3 rfl rfl ?_
      refine v_aload_n (n := 105) dX5_costOf_104 rfl 0 rfl rfl ?_
      refine v_getR (n := 108) (i := 13) (q2 := 50) dX5_costOf_105 (show isO 43 5 from rfl) rfl fg_X5_28 rfl ?_
      refine v_iload (n := 110) dX5_costOf_108 6 rfl rfl ?_
      refine v_iald (n := 111) dX5_costOf_110 (show isA 50 7 from rfl) rfl ?_
      refine v_isub (n := 112) dX5_costOf_111 rfl ?_
      refine v_lt (fun x15 => ?_)
      refine v_istore (n := 114) [(4, .int x15), (0, .ref (G.2.1 43)), (1, .int x1v), (3, .int x3v), (5, .int x5v), (6, .int x6v), (7, .int x7v)] dX5_costOf_112 (by decide) rfl rfl ?_
      refine v_iload (n := 116) dX5_costOf_114 5 rfl rfl ?_
      refine v_aload_n (n := 117) dX5_costOf_116 rfl 1 rfl rfl ?_
      refine v_getR (n := 120) (i := 14) (q2 := 51) dX5_costOf_117 (show isO 43 5 from rfl) rfl fg_X5_31 rfl ?_
      refine v_iload (n := 122) dX5_costOf_120 6 rfl rfl ?_
      refine v_iald (n := 123) dX5_costOf_122 (show isA 51 7 from rfl) rfl ?_
      refine v_cSi (n := 126) (st := [.int x6v]) [.int (μ13 51 x7v.toNatClampNeg)] dX5_costOf_123 (fun t ht => M_X5_anchorSet G (μ13 51 x7v.toNatClampNeg) μ13 t ht) cal_X5_anchorSet mw182 rfl rfl (Nat.le_of_ble_eq_true rfl) ⟨Nat.le_of_ble_eq_true rfl, Nat.le_of_ble_eq_true rfl⟩ rfl (fun x17 μ16 => ?_)
      refine v_ior (n := 127) dX5_costOf_126 rfl ?_
      refine v_lt (fun x18 => ?_)
      refine v_istore (n := 129) [(6, .int x18), (4, .int x15), (0, .ref (G.2.1 43)), (1, .int x1v), (3, .int x3v), (5, .int x5v), (7, .int x7v)] dX5_costOf_127 (by decide) rfl rfl ?_
      refine v_iinc (n := 132) (w := 1) (fun x19 => [(7, .int x19), (6, .int x18), (4, .int x15), (0, .ref (G.2.1 43)), (1, .int x1v), (3, .int x3v), (5, .int x5v)]) dX5_costOf_129 6 rfl ci_1 (by decide) (fun _ => rfl) rfl (fun x19 => ?_)
      refine v_goto (tgt := 91) dX5_costOf_132 (by decide) ?_
      exact v_sub [3, 4, 5, 2, 6, 1, 0] rfl (ih x15 x18 x19 μ16)
set_option maxRecDepth 100000 in
set_option maxHeartbeats 4000000 in
theorem vjn_X5_costOf_160 (G : GG) (x1v : Int32) (s0v : Int32) (s1v : Int32) (μ : Mem) : V G J_X5_costOf 160 [(0, .ref (G.2.1 43)), (1, .int x1v)] [.int s0v, .int s1v] μ (jn_X5_costOf_160 x1v s0v s1v μ) kI := by
  rw [jn_X5_costOf_160]
  refine v_iadd (n := 161) dX5_costOf_160 rfl ?_
  refine v_iload_n (n := 162) dX5_costOf_161 rfl 1 rfl rfl ?_
  refine v_iconst (n := 163) (v := 2) dX5_costOf_162 ci_2 rfl ?_
  refine v_icmp_le (tgt := 173) (n := 166) dX5_costOf_163 (by decide) rfl ?_ ?_
  · refine v_iconst (n := 174) (v := 0) dX5_costOf_173 ci_0 rfl ?_
    refine v_iadd (n := 175) dX5_costOf_174 rfl ?_
    exact v_iret dX5_costOf_175 rfl rfl
  · refine v_aload_n (n := 167) dX5_costOf_166 rfl 0 rfl rfl ?_
    refine v_getI (n := 170) (i := 8) dX5_costOf_167 (show isO 43 5 from rfl) rfl fg_X5_116 rfl ?_
    refine v_goto (tgt := 174) dX5_costOf_170 (by decide) ?_
    refine v_iadd (n := 175) dX5_costOf_174 rfl ?_
    exact v_iret dX5_costOf_175 rfl rfl
set_option maxRecDepth 100000 in
set_option maxHeartbeats 4000000 in
theorem vjn_X5_costOf_148 (G : GG) (x1v : Int32) (x5v : Int32) (x6v : Int32) (s0v : Int32) (μ : Mem) : V G J_X5_costOf 148 [(0, .ref (G.2.1 43)), (1, .int x1v), (5, .int x5v), (6, .int x6v)] [.int s0v] μ (jn_X5_costOf_148 x1v x5v x6v s0v μ) kI := by
  rw [jn_X5_costOf_148]
  refine v_iload (n := 150) dX5_costOf_148 2 rfl rfl ?_
  refine v_iload (n := 152) dX5_costOf_150 3 rfl rfl ?_
  refine v_icmp_ne (tgt := 159) (n := 155) dX5_costOf_152 (by decide) rfl ?_ ?_
  · refine v_iconst (n := 156) (v := 0) dX5_costOf_155 ci_0 rfl ?_
    refine v_goto (tgt := 160) dX5_costOf_156 (by decide) ?_
    exact v_sub [0, 1] rfl (vjn_X5_costOf_160 G x1v (0 : Int32) s0v μ)
  · refine v_iconst (n := 160) (v := 3) dX5_costOf_159 ci_3 rfl ?_
    exact v_sub [0, 1] rfl (vjn_X5_costOf_160 G x1v (3 : Int32) s0v μ)
set_option maxRecDepth 100000 in
set_option maxHeartbeats 4000000 in
theorem v_X5_costOf (G : GG) (a1 : Int32) (a2 : Int32) (a3 : Int32) (μ : Mem) : V G J_X5_costOf 0 [(0, .ref (G.2.1 43)), (1, .int a1), (2, .int a2), (3, .int a3)] [] μ (f_X5_costOf a1 a2 a3 μ) kI := by
  rw [f_X5_costOf]
  refine v_iload_n (n := 1) dX5_costOf_0 rfl 1 rfl rfl ?_
  refine v_iconst (n := 2) (v := 1) dX5_costOf_1 ci_1 rfl ?_
  refine v_icmp_ne (tgt := 16) (n := 5) dX5_costOf_2 (by decide) rfl ?_ ?_
  · refine v_aload_n (n := 6) dX5_costOf_5 rfl 0 rfl rfl ?_
    refine v_getI (n := 9) (i := 7) dX5_costOf_6 (show isO 43 5 from rfl) rfl fg_X5_113 rfl ?_
    refine v_aload_n (n := 10) dX5_costOf_9 rfl 0 rfl rfl ?_
    refine v_iload_n (n := 11) dX5_costOf_10 rfl 2 rfl rfl ?_
    refine v_cVi (n := 14) (st := [.int (μ 43 7)]) [.int a2] dX5_costOf_11 (fun t ht => M_X5_lengthOf G a2 μ t ht) cal_X5_lengthOf mw181 (show isO 43 5 from rfl) rfl rfl (Nat.le_of_ble_eq_true rfl) ⟨Nat.le_of_ble_eq_true rfl, Nat.le_of_ble_eq_true rfl⟩ rfl (fun x24 μ23 => ?_)
    refine v_iadd (n := 15) dX5_costOf_14 rfl ?_
    exact v_iret dX5_costOf_15 rfl rfl
  · refine v_iload_n (n := 17) dX5_costOf_16 rfl 1 rfl rfl ?_
    refine v_iconst (n := 18) (v := 2) dX5_costOf_17 ci_2 rfl ?_
    refine v_icmp_ne (tgt := 33) (n := 21) dX5_costOf_18 (by decide) rfl ?_ ?_
    · refine v_aload_n (n := 22) dX5_costOf_21 rfl 0 rfl rfl ?_
      refine v_getI (n := 25) (i := 7) dX5_costOf_22 (show isO 43 5 from rfl) rfl fg_X5_113 rfl ?_
      refine v_aload_n (n := 26) dX5_costOf_25 rfl 0 rfl rfl ?_
      refine v_getR (n := 29) (i := 13) (q2 := 50) dX5_costOf_26 (show isO 43 5 from rfl) rfl fg_X5_28 rfl ?_
      refine v_iload_n (n := 30) dX5_costOf_29 rfl 3 rfl rfl ?_
      refine v_iald (n := 31) dX5_costOf_30 (show isA 50 7 from rfl) rfl ?_
      refine v_iadd (n := 32) dX5_costOf_31 rfl ?_
      exact v_iret dX5_costOf_32 rfl rfl
    · refine v_iconst (n := 34) (v := 0) dX5_costOf_33 ci_0 rfl ?_
      refine v_istore (n := 36) [(4, .int (0 : Int32)), (0, .ref (G.2.1 43)), (1, .int a1), (2, .int a2), (3, .int a3)] dX5_costOf_34 (by decide) rfl rfl ?_
      refine v_iconst (n := 37) (v := 0) dX5_costOf_36 ci_0 rfl ?_
      refine v_istore (n := 39) [(5, .int (0 : Int32)), (4, .int (0 : Int32)), (0, .ref (G.2.1 43)), (1, .int a1), (2, .int a2), (3, .int a3)] dX5_costOf_37 (by decide) rfl rfl ?_
      refine v_iconst (n := 40) (v := 0) dX5_costOf_39 ci_0 rfl ?_
      refine v_istore (n := 42) [(6, .int (0 : Int32)), (5, .int (0 : Int32)), (4, .int (0 : Int32)), (0, .ref (G.2.1 43)), (1, .int a1), (2, .int a2), (3, .int a3)] dX5_costOf_40 (by decide) rfl rfl ?_
      refine v_iload_n (n := 43) dX5_costOf_42 rfl 5 rfl rfl ?_
      refine v_istore (n := 45) [(7, .int a2), (6, .int (0 : Int32)), (5, .int (0 : Int32)), (4, .int (0 : Int32)), (0, .ref (G.2.1 43)), (1, .int a1), (2, .int a2), (3, .int a3)] dX5_costOf_43 (by decide) rfl rfl ?_
      refine v_sub [4, 5, 6, 7, 3, 2, 1, 0] rfl ?_
      refine v_x3 (px := 88) (lx := (fun x10 x11 μ12 => [(0, .ref (G.2.1 43)), (1, .int a1), (3, .int a3), (4, .int x10), (5, .int x11), (6, .int (0 : Int32))])) (mx := (fun x10 x11 μ12 => μ12)) (fun kk hx => vlp_X5_costOf_45 G a1 a2 a3 (0 : Int32) kk hx FU (0 : Int32) (0 : Int32) a2 μ) (fun x10 x11 μ12 => ?_)
      refine v_iload_n (n := 89) dX5_costOf_88 rfl 2 rfl rfl ?_
      refine v_istore (n := 91) [(7, .int a3), (0, .ref (G.2.1 43)), (1, .int a1), (3, .int a3), (4, .int x10), (5, .int x11), (6, .int (0 : Int32))] dX5_costOf_89 (by decide) rfl rfl ?_
      refine v_sub [1, 2, 3, 4, 5, 6, 0] rfl ?_
      refine v_x3 (px := 135) (lx := (fun x20 x21 μ22 => [(0, .ref (G.2.1 43)), (1, .int a1), (4, .int x20), (5, .int x11), (6, .int x21)])) (mx := (fun x20 x21 μ22 => μ22)) (fun kk hx => vlp_X5_costOf_91 G a1 a3 x11 kk hx FU x10 (0 : Int32) a3 μ12) (fun x20 x21 μ22 => ?_)
      refine v_iload (n := 137) dX5_costOf_135 2 rfl rfl ?_
      refine v_if_ge (tgt := 146) (n := 140) dX5_costOf_137 (by decide) rfl ?_ ?_
      · refine v_iload (n := 148) dX5_costOf_146 2 rfl rfl ?_
        exact v_sub [0, 1, 3, 4] rfl (vjn_X5_costOf_148 G a1 x11 x21 x20 μ22)
      · refine v_iload (n := 142) dX5_costOf_140 2 rfl rfl ?_
        refine v_ineg (n := 143) dX5_costOf_142 rfl ?_
        refine v_goto (tgt := 148) dX5_costOf_143 (by decide) ?_
        exact v_sub [0, 1, 3, 4] rfl (vjn_X5_costOf_148 G a1 x11 x21 (-x20) μ22)
theorem M_X5_costOf (G : GG) (a1 : Int32) (a2 : Int32) (a3 : Int32) (μ : Mem) (t : Int32 × Mem) (ht : f_X5_costOf a1 a2 a3 μ = some t) : GM G J_X5_costOf yX5_costOf [.ref (G.2.1 43), .int a1, .int a2, .int a3] μ (oI t) :=
  gm_of (J := J_X5_costOf) (k := kI) rfl (by decide) (Nat.le_of_ble_eq_true rfl) (v_X5_costOf G a1 a2 a3 μ) ht rfl
set_option maxRecDepth 100000 in
set_option maxHeartbeats 4000000 in
theorem v_X5_isStand (G : GG) (a1 : Int32) (a2 : Int32) (a3 : Int32) (μ : Mem) : V G J_X5_isStand 0 [(0, .ref (G.2.1 43)), (1, .int a1), (2, .int a2), (3, .int a3)] [] μ (f_X5_isStand a1 a2 a3 μ) kI := by
  rw [f_X5_isStand]
  refine v_iload_n (n := 1) dX5_isStand_0 rfl 1 rfl rfl ?_
  refine v_aload_n (n := 2) dX5_isStand_1 rfl 0 rfl rfl ?_
  refine v_getI (n := 5) (i := 5) dX5_isStand_2 (show isO 43 5 from rfl) rfl fg_X5_80 rfl ?_
  refine v_icmp_gt (tgt := 34) (n := 8) dX5_isStand_5 (by decide) rfl ?_ ?_
  · refine v_iconst (n := 35) (v := 0) dX5_isStand_34 ci_0 rfl ?_
    exact v_zret dX5_isStand_35 rfl (by decide) rfl
  · refine v_iload_n (n := 9) dX5_isStand_8 rfl 2 rfl rfl ?_
    refine v_aload_n (n := 10) dX5_isStand_9 rfl 0 rfl rfl ?_
    refine v_getI (n := 13) (i := 6) dX5_isStand_10 (show isO 43 5 from rfl) rfl fg_X5_83 rfl ?_
    refine v_icmp_gt (tgt := 34) (n := 16) dX5_isStand_13 (by decide) rfl ?_ ?_
    · refine v_iconst (n := 35) (v := 0) dX5_isStand_34 ci_0 rfl ?_
      exact v_zret dX5_isStand_35 rfl (by decide) rfl
    · refine v_iload_n (n := 17) dX5_isStand_16 rfl 1 rfl rfl ?_
      refine v_iload_n (n := 18) dX5_isStand_17 rfl 2 rfl rfl ?_
      refine v_isub (n := 19) dX5_isStand_18 rfl ?_
      refine v_iload_n (n := 20) dX5_isStand_19 rfl 3 rfl rfl ?_
      refine v_icmp_gt (tgt := 34) (n := 23) dX5_isStand_20 (by decide) rfl ?_ ?_
      · refine v_iconst (n := 35) (v := 0) dX5_isStand_34 ci_0 rfl ?_
        exact v_zret dX5_isStand_35 rfl (by decide) rfl
      · refine v_iload_n (n := 24) dX5_isStand_23 rfl 2 rfl rfl ?_
        refine v_iload_n (n := 25) dX5_isStand_24 rfl 1 rfl rfl ?_
        refine v_isub (n := 26) dX5_isStand_25 rfl ?_
        refine v_iload_n (n := 27) dX5_isStand_26 rfl 3 rfl rfl ?_
        refine v_icmp_gt (tgt := 34) (n := 30) dX5_isStand_27 (by decide) rfl ?_ ?_
        · refine v_iconst (n := 35) (v := 0) dX5_isStand_34 ci_0 rfl ?_
          exact v_zret dX5_isStand_35 rfl (by decide) rfl
        · refine v_iconst (n := 31) (v := 1) dX5_isStand_30 ci_1 rfl ?_
          refine v_goto (tgt := 35) dX5_isStand_31 (by decide) ?_
          exact v_zret dX5_isStand_35 rfl (by decide) rfl
theorem M_X5_isStand (G : GG) (a1 : Int32) (a2 : Int32) (a3 : Int32) (μ : Mem) (t : Int32 × Mem) (ht : f_X5_isStand a1 a2 a3 μ = some t) : GM G J_X5_isStand yX5_isStand [.ref (G.2.1 43), .int a1, .int a2, .int a3] μ (oI t) :=
  gm_of (J := J_X5_isStand) (k := kI) rfl (by decide) (Nat.le_of_ble_eq_true rfl) (v_X5_isStand G a1 a2 a3 μ) ht rfl
set_option maxRecDepth 100000 in
set_option maxHeartbeats 4000000 in
theorem v_X5_comes (G : GG) (a1 : Int32) (a2 : Int32) (a3 : Int32) (μ : Mem) : V G J_X5_comes 0 [(0, .ref (G.2.1 43)), (1, .int a1), (2, .int a2), (3, .int a3)] [] μ (f_X5_comes a1 a2 a3 μ) kV := by
  rw [f_X5_comes]
  refine v_iload_n (n := 1) dX5_comes_0 rfl 2 rfl rfl ?_
  refine v_ldc (n := 3) (v := 99999) dX5_comes_1 mw184 rfl ?_
  refine v_icmp_lt (tgt := 7) (n := 6) dX5_comes_3 (by decide) rfl ?_ ?_
  · refine v_iload_n (n := 8) dX5_comes_7 rfl 2 rfl rfl ?_
    refine v_aload_n (n := 9) dX5_comes_8 rfl 0 rfl rfl ?_
    refine v_getR (n := 12) (i := 21) (q2 := 55) dX5_comes_9 (show isO 43 5 from rfl) rfl fg_X5_43 rfl ?_
    refine v_iload_n (n := 13) dX5_comes_12 rfl 1 rfl rfl ?_
    refine v_iald (n := 14) dX5_comes_13 (show isA 55 64 from rfl) rfl ?_
    refine v_icmp_ge (tgt := 46) (n := 17) dX5_comes_14 (by decide) rfl ?_ ?_
    · refine v_iload_n (n := 47) dX5_comes_46 rfl 2 rfl rfl ?_
      refine v_aload_n (n := 48) dX5_comes_47 rfl 0 rfl rfl ?_
      refine v_getR (n := 51) (i := 21) (q2 := 55) dX5_comes_48 (show isO 43 5 from rfl) rfl fg_X5_43 rfl ?_
      refine v_iload_n (n := 52) dX5_comes_51 rfl 1 rfl rfl ?_
      refine v_iald (n := 53) dX5_comes_52 (show isA 55 64 from rfl) rfl ?_
      refine v_icmp_ne (tgt := 76) (n := 56) dX5_comes_53 (by decide) rfl ?_ ?_
      · refine v_aload_n (n := 57) dX5_comes_56 rfl 0 rfl rfl ?_
        refine v_getR (n := 60) (i := 23) (q2 := 57) dX5_comes_57 (show isO 43 5 from rfl) rfl fg_X5_49 rfl ?_
        refine v_iload_n (n := 61) dX5_comes_60 rfl 1 rfl rfl ?_
        refine v_dup2 (n := 62) dX5_comes_61 rfl rfl rfl ?_
        refine v_iald (n := 63) dX5_comes_62 (show isA 57 64 from rfl) rfl ?_
        refine v_iload_n (n := 64) dX5_comes_63 rfl 3 rfl rfl ?_
        refine v_iadd (n := 65) dX5_comes_64 rfl ?_
        refine v_iast (n := 66) dX5_comes_65 (show isA 57 64 from rfl) rfl ?_
        refine v_lm (fun μ2 => ?_)
        refine v_aload_n (n := 67) dX5_comes_66 rfl 0 rfl rfl ?_
        refine v_getR (n := 70) (i := 22) (q2 := 56) dX5_comes_67 (show isO 43 5 from rfl) rfl fg_X5_46 rfl ?_
        refine v_iload_n (n := 71) dX5_comes_70 rfl 1 rfl rfl ?_
        refine v_iload_n (n := 72) dX5_comes_71 rfl 2 rfl rfl ?_
        refine v_iast (n := 73) dX5_comes_72 (show isA 56 64 from rfl) rfl ?_
        refine v_lm (fun μ3 => ?_)
        refine v_goto (tgt := 93) dX5_comes_73 (by decide) ?_
        exact v_vret dX5_comes_93 rfl rfl
      · refine v_iload_n (n := 77) dX5_comes_76 rfl 2 rfl rfl ?_
        refine v_aload_n (n := 78) dX5_comes_77 rfl 0 rfl rfl ?_
        refine v_getR (n := 81) (i := 22) (q2 := 56) dX5_comes_78 (show isO 43 5 from rfl) rfl fg_X5_46 rfl ?_
        refine v_iload_n (n := 82) dX5_comes_81 rfl 1 rfl rfl ?_
        refine v_iald (n := 83) dX5_comes_82 (show isA 56 64 from rfl) rfl ?_
        refine v_icmp_ge (tgt := 93) (n := 86) dX5_comes_83 (by decide) rfl ?_ ?_
        · exact v_vret dX5_comes_93 rfl rfl
        · refine v_aload_n (n := 87) dX5_comes_86 rfl 0 rfl rfl ?_
          refine v_getR (n := 90) (i := 22) (q2 := 56) dX5_comes_87 (show isO 43 5 from rfl) rfl fg_X5_46 rfl ?_
          refine v_iload_n (n := 91) dX5_comes_90 rfl 1 rfl rfl ?_
          refine v_iload_n (n := 92) dX5_comes_91 rfl 2 rfl rfl ?_
          refine v_iast (n := 93) dX5_comes_92 (show isA 56 64 from rfl) rfl ?_
          refine v_lm (fun μ1 => ?_)
          exact v_vret dX5_comes_93 rfl rfl
    · refine v_aload_n (n := 18) dX5_comes_17 rfl 0 rfl rfl ?_
      refine v_getR (n := 21) (i := 22) (q2 := 56) dX5_comes_18 (show isO 43 5 from rfl) rfl fg_X5_46 rfl ?_
      refine v_iload_n (n := 22) dX5_comes_21 rfl 1 rfl rfl ?_
      refine v_aload_n (n := 23) dX5_comes_22 rfl 0 rfl rfl ?_
      refine v_getR (n := 26) (i := 21) (q2 := 55) dX5_comes_23 (show isO 43 5 from rfl) rfl fg_X5_43 rfl ?_
      refine v_iload_n (n := 27) dX5_comes_26 rfl 1 rfl rfl ?_
      refine v_iald (n := 28) dX5_comes_27 (show isA 55 64 from rfl) rfl ?_
      refine v_iast (n := 29) dX5_comes_28 (show isA 56 64 from rfl) rfl ?_
      refine v_lm (fun μ4 => ?_)
      refine v_aload_n (n := 30) dX5_comes_29 rfl 0 rfl rfl ?_
      refine v_getR (n := 33) (i := 21) (q2 := 55) dX5_comes_30 (show isO 43 5 from rfl) rfl fg_X5_43 rfl ?_
      refine v_iload_n (n := 34) dX5_comes_33 rfl 1 rfl rfl ?_
      refine v_iload_n (n := 35) dX5_comes_34 rfl 2 rfl rfl ?_
      refine v_iast (n := 36) dX5_comes_35 (show isA 55 64 from rfl) rfl ?_
      refine v_lm (fun μ5 => ?_)
      refine v_aload_n (n := 37) dX5_comes_36 rfl 0 rfl rfl ?_
      refine v_getR (n := 40) (i := 23) (q2 := 57) dX5_comes_37 (show isO 43 5 from rfl) rfl fg_X5_49 rfl ?_
      refine v_iload_n (n := 41) dX5_comes_40 rfl 1 rfl rfl ?_
      refine v_iload_n (n := 42) dX5_comes_41 rfl 3 rfl rfl ?_
      refine v_iast (n := 43) dX5_comes_42 (show isA 57 64 from rfl) rfl ?_
      refine v_lm (fun μ6 => ?_)
      refine v_goto (tgt := 93) dX5_comes_43 (by decide) ?_
      exact v_vret dX5_comes_93 rfl rfl
  · exact v_vret dX5_comes_6 rfl rfl
theorem M_X5_comes (G : GG) (a1 : Int32) (a2 : Int32) (a3 : Int32) (μ : Mem) (t : Mem) (ht : f_X5_comes a1 a2 a3 μ = some t) : GM G J_X5_comes yX5_comes [.ref (G.2.1 43), .int a1, .int a2, .int a3] μ (oV t) :=
  gm_of (J := J_X5_comes) (k := kV) rfl (by decide) (Nat.le_of_ble_eq_true rfl) (v_X5_comes G a1 a2 a3 μ) ht rfl
set_option maxRecDepth 100000 in
set_option maxHeartbeats 4000000 in
theorem vlp_X5_findStand_81 (G : GG) (x1v : Int32) (x2v : Int32) (x3v : Int32) (x4v : Int32) (kk : (Mem) → Option Oc) (hx : ∀ (μ : Mem), V G J_X5_findStand 205 [(0, .ref (G.2.1 43)), (4, .int x4v)] [] μ (kk μ) some) : ∀ (n : Nat) (x5v : Int32) (μ : Mem), V G J_X5_findStand 81 [(0, .ref (G.2.1 43)), (1, .int x1v), (2, .int x2v), (3, .int x3v), (4, .int x4v), (5, .int x5v)] [] μ (lp_X5_findStand_81 x1v x2v x3v x4v n x5v μ) kk := by
  intro n
  induction n with
  | zero => intro _ _; exact v_none
  | succ n ih =>
    intro x5v μ
    rw [lp_X5_findStand_81]
    refine v_iload (n := 83) dX5_findStand_81 5 rfl rfl ?_
    refine v_iconst (n := 84) (v := 5) dX5_findStand_83 ci_5 rfl ?_
    refine v_icmp_ge (tgt := 205) (n := 87) dX5_findStand_84 (by decide) rfl ?_ ?_
    · exact v_leaf (v_sub [0, 4] rfl (hx  μ))
    · refine v_iload_n (n := 88) dX5_findStand_87 rfl 1 rfl rfl ?_
      refine v_iload (n := 90) dX5_findStand_88 5 rfl rfl ?_
      refine v_cSi (n := 93) (st := [.int x1v]) [.int x5v] dX5_findStand_90 (fun t ht => M_X5_leftsOf G x5v μ t ht) cal_X5_leftsOf mw180 rfl rfl (Nat.le_of_ble_eq_true rfl) ⟨Nat.le_of_ble_eq_true rfl, Nat.le_of_ble_eq_true rfl⟩ rfl (fun x8 μ7 => ?_)
      refine v_iadd (n := 94) dX5_findStand_93 rfl ?_
      refine v_lt (fun x9 => ?_)
      refine v_istore (n := 96) [(6, .int x9), (0, .ref (G.2.1 43)), (1, .int x1v), (2, .int x2v), (3, .int x3v), (4, .int x4v), (5, .int x5v)] dX5_findStand_94 (by decide) rfl rfl ?_
      refine v_iload_n (n := 97) dX5_findStand_96 rfl 3 rfl rfl ?_
      refine v_iload (n := 99) dX5_findStand_97 6 rfl rfl ?_
      refine v_cSi (n := 102) (st := [.int x2v]) [.int x5v] dX5_findStand_99 (fun t ht => M_X5_rightsOf G x5v μ7 t ht) cal_X5_rightsOf mw183 rfl rfl (Nat.le_of_ble_eq_true rfl) ⟨Nat.le_of_ble_eq_true rfl, Nat.le_of_ble_eq_true rfl⟩ rfl (fun x11 μ10 => ?_)
      refine v_iadd (n := 103) dX5_findStand_102 rfl ?_
      refine v_lt (fun x12 => ?_)
      refine v_istore (n := 105) [(7, .int x12), (6, .int x9), (0, .ref (G.2.1 43)), (1, .int x1v), (2, .int x2v), (3, .int x3v), (4, .int x4v), (5, .int x5v)] dX5_findStand_103 (by decide) rfl rfl ?_
      refine v_aload_n (n := 106) dX5_findStand_105 rfl 2 rfl rfl ?_
      refine v_iload (n := 108) dX5_findStand_106 1 rfl rfl ?_
      refine v_iload (n := 110) dX5_findStand_108 0 rfl rfl ?_
      refine v_iload_n (n := 111) dX5_findStand_110 rfl 5 rfl rfl ?_
      refine v_cVi (n := 114) (st := []) [.int x9, .int x12, .int x3v] dX5_findStand_111 (fun t ht => M_X5_isStand G x9 x12 x3v μ10 t ht) cal_X5_isStand mw188 (show isO 43 5 from rfl) rfl rfl (Nat.le_of_ble_eq_true rfl) ⟨Nat.le_of_ble_eq_true rfl, Nat.le_of_ble_eq_true rfl⟩ rfl (fun x14 μ13 => ?_)
      refine v_if_eq (tgt := 199) (n := 117) dX5_findStand_114 (by decide) rfl ?_ ?_
      · refine v_iinc (n := 202) (w := 1) (fun x15 => [(5, .int x15), (7, .int x12), (6, .int x9), (0, .ref (G.2.1 43)), (1, .int x1v), (2, .int x2v), (3, .int x3v), (4, .int x4v)]) dX5_findStand_199 7 rfl ci_1 (by decide) (fun _ => rfl) rfl (fun x15 => ?_)
        refine v_goto (tgt := 81) dX5_findStand_202 (by decide) ?_
        exact v_sub [3, 4, 5, 6, 7, 0] rfl (ih x15 μ13)
      · refine v_bipush (n := 119) (v := 8) dX5_findStand_117 cb_8 rfl ?_
        refine v_iload (n := 121) dX5_findStand_119 1 rfl rfl ?_
        refine v_imul (n := 122) dX5_findStand_121 rfl ?_
        refine v_iload (n := 124) dX5_findStand_122 0 rfl rfl ?_
        refine v_iadd (n := 125) dX5_findStand_124 rfl ?_
        refine v_lt (fun x16 => ?_)
        refine v_istore (n := 127) [(8, .int x16), (7, .int x12), (6, .int x9), (0, .ref (G.2.1 43)), (1, .int x1v), (2, .int x2v), (3, .int x3v), (4, .int x4v), (5, .int x5v)] dX5_findStand_125 (by decide) rfl rfl ?_
        refine v_aload_n (n := 128) dX5_findStand_127 rfl 3 rfl rfl ?_
        refine v_iload (n := 130) dX5_findStand_128 8 rfl rfl ?_
        refine v_iload_n (n := 131) dX5_findStand_130 rfl 4 rfl rfl ?_
        refine v_iload_n (n := 132) dX5_findStand_131 rfl 5 rfl rfl ?_
        refine v_cVi (n := 135) (st := []) [.int x5v, .int x1v, .int x2v] dX5_findStand_132 (fun t ht => M_X5_costOf G x5v x1v x2v μ13 t ht) cal_X5_costOf mw189 (show isO 43 5 from rfl) rfl rfl (Nat.le_of_ble_eq_true rfl) ⟨Nat.le_of_ble_eq_true rfl, Nat.le_of_ble_eq_true rfl⟩ rfl (fun x18 μ17 => ?_)
        refine v_istore (n := 137) [(9, .int x18), (8, .int x16), (7, .int x12), (6, .int x9), (0, .ref (G.2.1 43)), (1, .int x1v), (2, .int x2v), (3, .int x3v), (4, .int x4v), (5, .int x5v)] dX5_findStand_135 (by decide) rfl rfl ?_
        refine v_aload_n (n := 138) dX5_findStand_137 rfl 4 rfl rfl ?_
        refine v_iload (n := 140) dX5_findStand_138 8 rfl rfl ?_
        refine v_iload (n := 142) dX5_findStand_140 0 rfl rfl ?_
        refine v_aload_n (n := 143) dX5_findStand_142 rfl 4 rfl rfl ?_
        refine v_getR (n := 146) (i := 21) (q2 := 55) dX5_findStand_143 (show isO 43 5 from rfl) rfl fg_X5_43 rfl ?_
        refine v_iload (n := 148) dX5_findStand_146 1 rfl rfl ?_
        refine v_iald (n := 149) dX5_findStand_148 (show isA 55 64 from rfl) rfl ?_
        refine v_iadd (n := 150) dX5_findStand_149 rfl ?_
        refine v_aload_n (n := 151) dX5_findStand_150 rfl 4 rfl rfl ?_
        refine v_getR (n := 154) (i := 23) (q2 := 57) dX5_findStand_151 (show isO 43 5 from rfl) rfl fg_X5_49 rfl ?_
        refine v_iload (n := 156) dX5_findStand_154 1 rfl rfl ?_
        refine v_iald (n := 157) dX5_findStand_156 (show isA 57 64 from rfl) rfl ?_
        refine v_cVv (n := 160) (st := []) [.int x4v, .int (x18 + μ17 55 x16.toNatClampNeg), .int (μ17 57 x16.toNatClampNeg)] dX5_findStand_157 (fun t ht => M_X5_comes G x4v (x18 + μ17 55 x16.toNatClampNeg) (μ17 57 x16.toNatClampNeg) μ17 t ht) cal_X5_comes mw190 (show isO 43 5 from rfl) rfl rfl (Nat.le_of_ble_eq_true rfl) ⟨Nat.le_of_ble_eq_true rfl, Nat.le_of_ble_eq_true rfl⟩ rfl (fun μ19 => ?_)
        refine v_aload_n (n := 161) dX5_findStand_160 rfl 4 rfl rfl ?_
        refine v_iload (n := 163) dX5_findStand_161 8 rfl rfl ?_
        refine v_aload_n (n := 164) dX5_findStand_163 rfl 4 rfl rfl ?_
        refine v_getR (n := 167) (i := 22) (q2 := 56) dX5_findStand_164 (show isO 43 5 from rfl) rfl fg_X5_46 rfl ?_
        refine v_iload (n := 169) dX5_findStand_167 1 rfl rfl ?_
        refine v_iald (n := 170) dX5_findStand_169 (show isA 56 64 from rfl) rfl ?_
        refine v_aload_n (n := 171) dX5_findStand_170 rfl 4 rfl rfl ?_
        refine v_getR (n := 174) (i := 21) (q2 := 55) dX5_findStand_171 (show isO 43 5 from rfl) rfl fg_X5_43 rfl ?_
        refine v_iload (n := 176) dX5_findStand_174 1 rfl rfl ?_
        refine v_iald (n := 177) dX5_findStand_176 (show isA 55 64 from rfl) rfl ?_
        refine v_icmp_ne (tgt := 185) (n := 180) dX5_findStand_177 (by decide) rfl ?_ ?_
        · refine v_ldc (n := 182) (v := 99999) dX5_findStand_180 mw184 rfl ?_
          refine v_goto (tgt := 195) dX5_findStand_182 (by decide) ?_
          refine v_iconst (n := 196) (v := 1) dX5_findStand_195 ci_1 rfl ?_
          refine v_cVv (n := 199) (st := []) [.int x4v, .int (99999 : Int32), .int (1 : Int32)] dX5_findStand_196 (fun t ht => M_X5_comes G x4v (99999 : Int32) (1 : Int32) μ19 t ht) cal_X5_comes mw190 (show isO 43 5 from rfl) rfl rfl (Nat.le_of_ble_eq_true rfl) ⟨Nat.le_of_ble_eq_true rfl, Nat.le_of_ble_eq_true rfl⟩ rfl (fun μ22 => ?_)
          refine v_iinc (n := 202) (w := 1) (fun x23 => [(5, .int x23), (9, .int x18), (8, .int x16), (7, .int x12), (6, .int x9), (0, .ref (G.2.1 43)), (1, .int x1v), (2, .int x2v), (3, .int x3v), (4, .int x4v)]) dX5_findStand_199 9 rfl ci_1 (by decide) (fun _ => rfl) rfl (fun x23 => ?_)
          refine v_goto (tgt := 81) dX5_findStand_202 (by decide) ?_
          exact v_sub [5, 6, 7, 8, 9, 0] rfl (ih x23 μ22)
        · refine v_iload (n := 187) dX5_findStand_185 0 rfl rfl ?_
          refine v_aload_n (n := 188) dX5_findStand_187 rfl 4 rfl rfl ?_
          refine v_getR (n := 191) (i := 22) (q2 := 56) dX5_findStand_188 (show isO 43 5 from rfl) rfl fg_X5_46 rfl ?_
          refine v_iload (n := 193) dX5_findStand_191 1 rfl rfl ?_
          refine v_iald (n := 194) dX5_findStand_193 (show isA 56 64 from rfl) rfl ?_
          refine v_iadd (n := 195) dX5_findStand_194 rfl ?_
          refine v_iconst (n := 196) (v := 1) dX5_findStand_195 ci_1 rfl ?_
          refine v_cVv (n := 199) (st := []) [.int x4v, .int (x18 + μ19 56 x16.toNatClampNeg), .int (1 : Int32)] dX5_findStand_196 (fun t ht => M_X5_comes G x4v (x18 + μ19 56 x16.toNatClampNeg) (1 : Int32) μ19 t ht) cal_X5_comes mw190 (show isO 43 5 from rfl) rfl rfl (Nat.le_of_ble_eq_true rfl) ⟨Nat.le_of_ble_eq_true rfl, Nat.le_of_ble_eq_true rfl⟩ rfl (fun μ20 => ?_)
          refine v_iinc (n := 202) (w := 1) (fun x21 => [(5, .int x21), (9, .int x18), (8, .int x16), (7, .int x12), (6, .int x9), (0, .ref (G.2.1 43)), (1, .int x1v), (2, .int x2v), (3, .int x3v), (4, .int x4v)]) dX5_findStand_199 9 rfl ci_1 (by decide) (fun _ => rfl) rfl (fun x21 => ?_)
          refine v_goto (tgt := 81) dX5_findStand_202 (by decide) ?_
          exact v_sub [5, 6, 7, 8, 9, 0] rfl (ih x21 μ20)
set_option maxRecDepth 100000 in
set_option maxHeartbeats 4000000 in
theorem vjn_X5_findStand_78 (G : GG) (x1v : Int32) (x2v : Int32) (x3v : Int32) (x4v : Int32) (μ : Mem) : V G J_X5_findStand 78 [(0, .ref (G.2.1 43)), (1, .int x1v), (2, .int x2v), (3, .int x3v), (4, .int x4v)] [] μ (jn_X5_findStand_78 x1v x2v x3v x4v μ) kV := by
  rw [jn_X5_findStand_78]
  refine v_iconst (n := 79) (v := 0) dX5_findStand_78 ci_0 rfl ?_
  refine v_istore (n := 81) [(5, .int (0 : Int32)), (0, .ref (G.2.1 43)), (1, .int x1v), (2, .int x2v), (3, .int x3v), (4, .int x4v)] dX5_findStand_79 (by decide) rfl rfl ?_
  refine v_sub [1, 2, 3, 4, 5, 0] rfl ?_
  refine v_x1 (px := 205) (lx := (fun μ24 => [(0, .ref (G.2.1 43)), (4, .int x4v)])) (mx := (fun μ24 => μ24)) (fun kk hx => vlp_X5_findStand_81 G x1v x2v x3v x4v kk hx FU (0 : Int32) μ) (fun μ24 => ?_)
  refine v_aload_n (n := 206) dX5_findStand_205 rfl 0 rfl rfl ?_
  refine v_getR (n := 209) (i := 22) (q2 := 56) dX5_findStand_206 (show isO 43 5 from rfl) rfl fg_X5_46 rfl ?_
  refine v_iload (n := 211) dX5_findStand_209 1 rfl rfl ?_
  refine v_aload_n (n := 212) dX5_findStand_211 rfl 0 rfl rfl ?_
  refine v_getR (n := 215) (i := 23) (q2 := 57) dX5_findStand_212 (show isO 43 5 from rfl) rfl fg_X5_49 rfl ?_
  refine v_iload (n := 217) dX5_findStand_215 1 rfl rfl ?_
  refine v_iald (n := 218) dX5_findStand_217 (show isA 57 64 from rfl) rfl ?_
  refine v_iconst (n := 219) (v := 1) dX5_findStand_218 ci_1 rfl ?_
  refine v_icmp_le (tgt := 232) (n := 222) dX5_findStand_219 (by decide) rfl ?_ ?_
  · refine v_aload_n (n := 233) dX5_findStand_232 rfl 0 rfl rfl ?_
    refine v_getR (n := 236) (i := 22) (q2 := 56) dX5_findStand_233 (show isO 43 5 from rfl) rfl fg_X5_46 rfl ?_
    refine v_iload (n := 238) dX5_findStand_236 1 rfl rfl ?_
    refine v_iald (n := 239) dX5_findStand_238 (show isA 56 64 from rfl) rfl ?_
    refine v_iast (n := 240) dX5_findStand_239 (show isA 56 64 from rfl) rfl ?_
    refine v_lm (fun μ25 => ?_)
    exact v_vret dX5_findStand_240 rfl rfl
  · refine v_aload_n (n := 223) dX5_findStand_222 rfl 0 rfl rfl ?_
    refine v_getR (n := 226) (i := 21) (q2 := 55) dX5_findStand_223 (show isO 43 5 from rfl) rfl fg_X5_43 rfl ?_
    refine v_iload (n := 228) dX5_findStand_226 1 rfl rfl ?_
    refine v_iald (n := 229) dX5_findStand_228 (show isA 55 64 from rfl) rfl ?_
    refine v_goto (tgt := 239) dX5_findStand_229 (by decide) ?_
    refine v_iast (n := 240) dX5_findStand_239 (show isA 56 64 from rfl) rfl ?_
    refine v_lm (fun μ26 => ?_)
    exact v_vret dX5_findStand_240 rfl rfl
set_option maxRecDepth 100000 in
set_option maxHeartbeats 4000000 in
theorem v_X5_findStand (G : GG) (a1 : Int32) (a2 : Int32) (a3 : Int32) (μ : Mem) : V G J_X5_findStand 0 [(0, .ref (G.2.1 43)), (1, .int a1), (2, .int a2), (3, .int a3)] [] μ (f_X5_findStand a1 a2 a3 μ) kV := by
  rw [f_X5_findStand]
  refine v_bipush (n := 2) (v := 8) dX5_findStand_0 cb_8 rfl ?_
  refine v_iload_n (n := 3) dX5_findStand_2 rfl 1 rfl rfl ?_
  refine v_imul (n := 4) dX5_findStand_3 rfl ?_
  refine v_iload_n (n := 5) dX5_findStand_4 rfl 2 rfl rfl ?_
  refine v_iadd (n := 6) dX5_findStand_5 rfl ?_
  refine v_lt (fun x1 => ?_)
  refine v_istore (n := 8) [(4, .int x1), (0, .ref (G.2.1 43)), (1, .int a1), (2, .int a2), (3, .int a3)] dX5_findStand_6 (by decide) rfl rfl ?_
  refine v_aload_n (n := 9) dX5_findStand_8 rfl 1 rfl rfl ?_
  refine v_getR (n := 12) (i := 21) (q2 := 55) dX5_findStand_9 (show isO 43 5 from rfl) rfl fg_X5_43 rfl ?_
  refine v_iload (n := 14) dX5_findStand_12 0 rfl rfl ?_
  refine v_ldc (n := 16) (v := 99999) dX5_findStand_14 mw184 rfl ?_
  refine v_iast (n := 17) dX5_findStand_16 (show isA 55 64 from rfl) rfl ?_
  refine v_lm (fun μ2 => ?_)
  refine v_aload_n (n := 18) dX5_findStand_17 rfl 1 rfl rfl ?_
  refine v_getR (n := 21) (i := 22) (q2 := 56) dX5_findStand_18 (show isO 43 5 from rfl) rfl fg_X5_46 rfl ?_
  refine v_iload (n := 23) dX5_findStand_21 0 rfl rfl ?_
  refine v_ldc (n := 25) (v := 99999) dX5_findStand_23 mw184 rfl ?_
  refine v_iast (n := 26) dX5_findStand_25 (show isA 56 64 from rfl) rfl ?_
  refine v_lm (fun μ3 => ?_)
  refine v_aload_n (n := 27) dX5_findStand_26 rfl 1 rfl rfl ?_
  refine v_getR (n := 30) (i := 23) (q2 := 57) dX5_findStand_27 (show isO 43 5 from rfl) rfl fg_X5_49 rfl ?_
  refine v_iload (n := 32) dX5_findStand_30 0 rfl rfl ?_
  refine v_iconst (n := 33) (v := 0) dX5_findStand_32 ci_0 rfl ?_
  refine v_iast (n := 34) dX5_findStand_33 (show isA 57 64 from rfl) rfl ?_
  refine v_lm (fun μ4 => ?_)
  refine v_aload_n (n := 35) dX5_findStand_34 rfl 1 rfl rfl ?_
  refine v_iload_n (n := 36) dX5_findStand_35 rfl 2 rfl rfl ?_
  refine v_iload_n (n := 37) dX5_findStand_36 rfl 3 rfl rfl ?_
  refine v_iload_n (n := 38) dX5_findStand_37 rfl 4 rfl rfl ?_
  refine v_cVi (n := 41) (st := []) [.int a1, .int a2, .int a3] dX5_findStand_38 (fun t ht => M_X5_isStand G a1 a2 a3 μ4 t ht) cal_X5_isStand mw188 (show isO 43 5 from rfl) rfl rfl (Nat.le_of_ble_eq_true rfl) ⟨Nat.le_of_ble_eq_true rfl, Nat.le_of_ble_eq_true rfl⟩ rfl (fun x6 μ5 => ?_)
  refine v_if_ne (tgt := 45) (n := 44) dX5_findStand_41 (by decide) rfl ?_ ?_
  · exact v_vret dX5_findStand_44 rfl rfl
  · refine v_iload_n (n := 46) dX5_findStand_45 rfl 2 rfl rfl ?_
    refine v_aload_n (n := 47) dX5_findStand_46 rfl 1 rfl rfl ?_
    refine v_getI (n := 50) (i := 5) dX5_findStand_47 (show isO 43 5 from rfl) rfl fg_X5_80 rfl ?_
    refine v_icmp_ne (tgt := 78) (n := 53) dX5_findStand_50 (by decide) rfl ?_ ?_
    · refine v_iload_n (n := 54) dX5_findStand_53 rfl 3 rfl rfl ?_
      refine v_aload_n (n := 55) dX5_findStand_54 rfl 1 rfl rfl ?_
      refine v_getI (n := 58) (i := 6) dX5_findStand_55 (show isO 43 5 from rfl) rfl fg_X5_83 rfl ?_
      refine v_icmp_ne (tgt := 78) (n := 61) dX5_findStand_58 (by decide) rfl ?_ ?_
      · refine v_aload_n (n := 62) dX5_findStand_61 rfl 1 rfl rfl ?_
        refine v_getR (n := 65) (i := 21) (q2 := 55) dX5_findStand_62 (show isO 43 5 from rfl) rfl fg_X5_43 rfl ?_
        refine v_iload (n := 67) dX5_findStand_65 0 rfl rfl ?_
        refine v_iconst (n := 68) (v := 0) dX5_findStand_67 ci_0 rfl ?_
        refine v_iast (n := 69) dX5_findStand_68 (show isA 55 64 from rfl) rfl ?_
        refine v_lm (fun μ27 => ?_)
        refine v_aload_n (n := 70) dX5_findStand_69 rfl 1 rfl rfl ?_
        refine v_getR (n := 73) (i := 23) (q2 := 57) dX5_findStand_70 (show isO 43 5 from rfl) rfl fg_X5_49 rfl ?_
        refine v_iload (n := 75) dX5_findStand_73 0 rfl rfl ?_
        refine v_iconst (n := 76) (v := 1) dX5_findStand_75 ci_1 rfl ?_
        refine v_iast (n := 77) dX5_findStand_76 (show isA 57 64 from rfl) rfl ?_
        refine v_lm (fun μ28 => ?_)
        exact v_vret dX5_findStand_77 rfl rfl
      · exact v_sub [1, 2, 3, 4, 0] rfl (vjn_X5_findStand_78 G a1 a2 a3 x1 μ5)
    · exact v_sub [1, 2, 3, 4, 0] rfl (vjn_X5_findStand_78 G a1 a2 a3 x1 μ5)
theorem M_X5_findStand (G : GG) (a1 : Int32) (a2 : Int32) (a3 : Int32) (μ : Mem) (t : Mem) (ht : f_X5_findStand a1 a2 a3 μ = some t) : GM G J_X5_findStand yX5_findStand [.ref (G.2.1 43), .int a1, .int a2, .int a3] μ (oV t) :=
  gm_of (J := J_X5_findStand) (k := kV) rfl (by decide) (Nat.le_of_ble_eq_true rfl) (v_X5_findStand G a1 a2 a3 μ) ht rfl
set_option maxRecDepth 100000 in
set_option maxHeartbeats 4000000 in
theorem vlp_X5_findAll_14 (G : GG) (x1v : Int32) (x2v : Int32) (kk : (Mem) → Option Oc) (hx : ∀ (μ : Mem), V G J_X5_findAll 31 [(0, .ref (G.2.1 43)), (1, .int x1v), (2, .int x2v)] [] μ (kk μ) some) : ∀ (n : Nat) (x3v : Int32) (μ : Mem), V G J_X5_findAll 14 [(0, .ref (G.2.1 43)), (1, .int x1v), (2, .int x2v), (3, .int x3v)] [] μ (lp_X5_findAll_14 x1v x2v n x3v μ) kk := by
  intro n
  induction n with
  | zero => intro _ _; exact v_none
  | succ n ih =>
    intro x3v μ
    rw [lp_X5_findAll_14]
    refine v_iload_n (n := 15) dX5_findAll_14 rfl 3 rfl rfl ?_
    refine v_if_lt (tgt := 31) (n := 18) dX5_findAll_15 (by decide) rfl ?_ ?_
    · exact v_leaf (v_sub [0, 1, 2] rfl (hx  μ))
    · refine v_aload_n (n := 19) dX5_findAll_18 rfl 0 rfl rfl ?_
      refine v_iload_n (n := 20) dX5_findAll_19 rfl 2 rfl rfl ?_
      refine v_iload_n (n := 21) dX5_findAll_20 rfl 3 rfl rfl ?_
      refine v_iload_n (n := 22) dX5_findAll_21 rfl 1 rfl rfl ?_
      refine v_cVv (n := 25) (st := []) [.int x2v, .int x3v, .int x1v] dX5_findAll_22 (fun t ht => M_X5_findStand G x2v x3v x1v μ t ht) cal_X5_findStand mw191 (show isO 43 5 from rfl) rfl rfl (Nat.le_of_ble_eq_true rfl) ⟨Nat.le_of_ble_eq_true rfl, Nat.le_of_ble_eq_true rfl⟩ rfl (fun μ3 => ?_)
      refine v_iinc (n := 28) (w := -1) (fun x4 => [(3, .int x4), (0, .ref (G.2.1 43)), (1, .int x1v), (2, .int x2v)]) dX5_findAll_25 3 rfl ci_m1 (by decide) (fun _ => rfl) rfl (fun x4 => ?_)
      refine v_goto (tgt := 14) dX5_findAll_28 (by decide) ?_
      exact v_sub [1, 2, 3, 0] rfl (ih x4 μ3)
set_option maxRecDepth 100000 in
set_option maxHeartbeats 4000000 in
theorem vlp_X5_findAll_5 (G : GG) (x1v : Int32) (kk : (Mem) → Option Oc) (hx : ∀ (μ : Mem), V G J_X5_findAll 37 [(0, .ref (G.2.1 43))] [] μ (kk μ) some) : ∀ (n : Nat) (x2v : Int32) (μ : Mem), V G J_X5_findAll 5 [(0, .ref (G.2.1 43)), (1, .int x1v), (2, .int x2v)] [] μ (lp_X5_findAll_5 x1v n x2v μ) kk := by
  intro n
  induction n with
  | zero => intro _ _; exact v_none
  | succ n ih =>
    intro x2v μ
    rw [lp_X5_findAll_5]
    refine v_iload_n (n := 6) dX5_findAll_5 rfl 2 rfl rfl ?_
    refine v_if_lt (tgt := 37) (n := 9) dX5_findAll_6 (by decide) rfl ?_ ?_
    · exact v_leaf (v_sub [0] rfl (hx  μ))
    · refine v_aload_n (n := 10) dX5_findAll_9 rfl 0 rfl rfl ?_
      refine v_getI (n := 13) (i := 6) dX5_findAll_10 (show isO 43 5 from rfl) rfl fg_X5_83 rfl ?_
      refine v_lt (fun x2 => ?_)
      refine v_istore_n (n := 14) [(3, .int x2), (0, .ref (G.2.1 43)), (1, .int x1v), (2, .int x2v)] dX5_findAll_13 rfl (by decide) rfl rfl ?_
      refine v_sub [1, 2, 3, 0] rfl ?_
      refine v_x1 (px := 31) (lx := (fun μ5 => [(0, .ref (G.2.1 43)), (1, .int x1v), (2, .int x2v)])) (mx := (fun μ5 => μ5)) (fun kk hx => vlp_X5_findAll_14 G x1v x2v kk hx FU x2 μ) (fun μ5 => ?_)
      refine v_iinc (n := 34) (w := -1) (fun x6 => [(2, .int x6), (0, .ref (G.2.1 43)), (1, .int x1v)]) dX5_findAll_31 2 rfl ci_m1 (by decide) (fun _ => rfl) rfl (fun x6 => ?_)
      refine v_goto (tgt := 5) dX5_findAll_34 (by decide) ?_
      exact v_sub [1, 2, 0] rfl (ih x6 μ5)
set_option maxRecDepth 100000 in
set_option maxHeartbeats 4000000 in
theorem v_X5_findAll (G : GG) (a1 : Int32) (μ : Mem) : V G J_X5_findAll 0 [(0, .ref (G.2.1 43)), (1, .int a1)] [] μ (f_X5_findAll a1 μ) kI := by
  rw [f_X5_findAll]
  refine v_aload_n (n := 1) dX5_findAll_0 rfl 0 rfl rfl ?_
  refine v_getI (n := 4) (i := 5) dX5_findAll_1 (show isO 43 5 from rfl) rfl fg_X5_80 rfl ?_
  refine v_lt (fun x1 => ?_)
  refine v_istore_n (n := 5) [(2, .int x1), (0, .ref (G.2.1 43)), (1, .int a1)] dX5_findAll_4 rfl (by decide) rfl rfl ?_
  refine v_sub [1, 2, 0] rfl ?_
  refine v_x1 (px := 37) (lx := (fun μ7 => [(0, .ref (G.2.1 43))])) (mx := (fun μ7 => μ7)) (fun kk hx => vlp_X5_findAll_5 G a1 kk hx FU x1 μ) (fun μ7 => ?_)
  refine v_aload_n (n := 38) dX5_findAll_37 rfl 0 rfl rfl ?_
  refine v_getR (n := 41) (i := 21) (q2 := 55) dX5_findAll_38 (show isO 43 5 from rfl) rfl fg_X5_43 rfl ?_
  refine v_iconst (n := 42) (v := 0) dX5_findAll_41 ci_0 rfl ?_
  refine v_iald (n := 43) dX5_findAll_42 (show isA 55 64 from rfl) rfl ?_
  refine v_ldc (n := 45) (v := 99999) dX5_findAll_43 mw184 rfl ?_
  refine v_icmp_lt (tgt := 53) (n := 48) dX5_findAll_45 (by decide) rfl ?_ ?_
  · refine v_aload_n (n := 54) dX5_findAll_53 rfl 0 rfl rfl ?_
    refine v_getR (n := 57) (i := 21) (q2 := 55) dX5_findAll_54 (show isO 43 5 from rfl) rfl fg_X5_43 rfl ?_
    refine v_iconst (n := 58) (v := 0) dX5_findAll_57 ci_0 rfl ?_
    refine v_iald (n := 59) dX5_findAll_58 (show isA 55 64 from rfl) rfl ?_
    exact v_iret dX5_findAll_59 rfl rfl
  · refine v_bipush (n := 50) (v := -9) dX5_findAll_48 cb_m9 rfl ?_
    refine v_goto (tgt := 59) dX5_findAll_50 (by decide) ?_
    exact v_iret dX5_findAll_59 rfl rfl
theorem M_X5_findAll (G : GG) (a1 : Int32) (μ : Mem) (t : Int32 × Mem) (ht : f_X5_findAll a1 μ = some t) : GM G J_X5_findAll yX5_findAll [.ref (G.2.1 43), .int a1] μ (oI t) :=
  gm_of (J := J_X5_findAll) (k := kI) rfl (by decide) (Nat.le_of_ble_eq_true rfl) (v_X5_findAll G a1 μ) ht rfl
set_option maxRecDepth 100000 in
set_option maxHeartbeats 4000000 in
theorem v_X5_isOnBest (G : GG) (a1 : Int32) (a2 : Int32) (a3 : Int32) (μ : Mem) : V G J_X5_isOnBest 0 [(0, .ref (G.2.1 43)), (1, .int a1), (2, .int a2), (3, .int a3)] [] μ (f_X5_isOnBest a1 a2 a3 μ) kI := by
  rw [f_X5_isOnBest]
  refine v_iload_n (n := 1) dX5_isOnBest_0 rfl 2 rfl rfl ?_
  refine v_iload_n (n := 2) dX5_isOnBest_1 rfl 1 rfl rfl ?_
  refine v_cSi (n := 5) (st := [.int a2]) [.int a1] dX5_isOnBest_2 (fun t ht => M_X5_leftsOf G a1 μ t ht) cal_X5_leftsOf mw180 rfl rfl (Nat.le_of_ble_eq_true rfl) ⟨Nat.le_of_ble_eq_true rfl, Nat.le_of_ble_eq_true rfl⟩ rfl (fun x2 μ1 => ?_)
  refine v_iadd (n := 6) dX5_isOnBest_5 rfl ?_
  refine v_lt (fun x3 => ?_)
  refine v_istore (n := 8) [(4, .int x3), (0, .ref (G.2.1 43)), (1, .int a1), (2, .int a2), (3, .int a3)] dX5_isOnBest_6 (by decide) rfl rfl ?_
  refine v_iload_n (n := 9) dX5_isOnBest_8 rfl 4 rfl rfl ?_
  refine v_iload_n (n := 10) dX5_isOnBest_9 rfl 2 rfl rfl ?_
  refine v_cSi (n := 13) (st := [.int a3]) [.int a1] dX5_isOnBest_10 (fun t ht => M_X5_rightsOf G a1 μ1 t ht) cal_X5_rightsOf mw183 rfl rfl (Nat.le_of_ble_eq_true rfl) ⟨Nat.le_of_ble_eq_true rfl, Nat.le_of_ble_eq_true rfl⟩ rfl (fun x5 μ4 => ?_)
  refine v_iadd (n := 14) dX5_isOnBest_13 rfl ?_
  refine v_lt (fun x6 => ?_)
  refine v_istore (n := 16) [(5, .int x6), (4, .int x3), (0, .ref (G.2.1 43)), (1, .int a1), (2, .int a2), (3, .int a3)] dX5_isOnBest_14 (by decide) rfl rfl ?_
  refine v_aload_n (n := 17) dX5_isOnBest_16 rfl 2 rfl rfl ?_
  refine v_iload (n := 19) dX5_isOnBest_17 1 rfl rfl ?_
  refine v_iload (n := 21) dX5_isOnBest_19 0 rfl rfl ?_
  refine v_aload_n (n := 22) dX5_isOnBest_21 rfl 2 rfl rfl ?_
  refine v_getI (n := 25) (i := 9) dX5_isOnBest_22 (show isO 43 5 from rfl) rfl fg_X5_119 rfl ?_
  refine v_cVi (n := 28) (st := []) [.int x3, .int x6, .int (μ4 43 9)] dX5_isOnBest_25 (fun t ht => M_X5_isStand G x3 x6 (μ4 43 9) μ4 t ht) cal_X5_isStand mw188 (show isO 43 5 from rfl) rfl rfl (Nat.le_of_ble_eq_true rfl) ⟨Nat.le_of_ble_eq_true rfl, Nat.le_of_ble_eq_true rfl⟩ rfl (fun x8 μ7 => ?_)
  refine v_if_eq (tgt := 70) (n := 31) dX5_isOnBest_28 (by decide) rfl ?_ ?_
  · refine v_iconst (n := 71) (v := 0) dX5_isOnBest_70 ci_0 rfl ?_
    exact v_zret dX5_isOnBest_71 rfl (by decide) rfl
  · refine v_aload_n (n := 32) dX5_isOnBest_31 rfl 2 rfl rfl ?_
    refine v_iload_n (n := 33) dX5_isOnBest_32 rfl 3 rfl rfl ?_
    refine v_iload_n (n := 34) dX5_isOnBest_33 rfl 4 rfl rfl ?_
    refine v_iload_n (n := 35) dX5_isOnBest_34 rfl 5 rfl rfl ?_
    refine v_cVi (n := 38) (st := []) [.int a1, .int a2, .int a3] dX5_isOnBest_35 (fun t ht => M_X5_costOf G a1 a2 a3 μ7 t ht) cal_X5_costOf mw189 (show isO 43 5 from rfl) rfl rfl (Nat.le_of_ble_eq_true rfl) ⟨Nat.le_of_ble_eq_true rfl, Nat.le_of_ble_eq_true rfl⟩ rfl (fun x10 μ9 => ?_)
    refine v_aload_n (n := 39) dX5_isOnBest_38 rfl 2 rfl rfl ?_
    refine v_getR (n := 42) (i := 21) (q2 := 55) dX5_isOnBest_39 (show isO 43 5 from rfl) rfl fg_X5_43 rfl ?_
    refine v_bipush (n := 44) (v := 8) dX5_isOnBest_42 cb_8 rfl ?_
    refine v_iload (n := 46) dX5_isOnBest_44 1 rfl rfl ?_
    refine v_imul (n := 47) dX5_isOnBest_46 rfl ?_
    refine v_iload (n := 49) dX5_isOnBest_47 0 rfl rfl ?_
    refine v_iadd (n := 50) dX5_isOnBest_49 rfl ?_
    refine v_iald (n := 51) dX5_isOnBest_50 (show isA 55 64 from rfl) rfl ?_
    refine v_iadd (n := 52) dX5_isOnBest_51 rfl ?_
    refine v_aload_n (n := 53) dX5_isOnBest_52 rfl 2 rfl rfl ?_
    refine v_getR (n := 56) (i := 21) (q2 := 55) dX5_isOnBest_53 (show isO 43 5 from rfl) rfl fg_X5_43 rfl ?_
    refine v_bipush (n := 58) (v := 8) dX5_isOnBest_56 cb_8 rfl ?_
    refine v_iload_n (n := 59) dX5_isOnBest_58 rfl 4 rfl rfl ?_
    refine v_imul (n := 60) dX5_isOnBest_59 rfl ?_
    refine v_iload_n (n := 61) dX5_isOnBest_60 rfl 5 rfl rfl ?_
    refine v_iadd (n := 62) dX5_isOnBest_61 rfl ?_
    refine v_iald (n := 63) dX5_isOnBest_62 (show isA 55 64 from rfl) rfl ?_
    refine v_icmp_ne (tgt := 70) (n := 66) dX5_isOnBest_63 (by decide) rfl ?_ ?_
    · refine v_iconst (n := 67) (v := 1) dX5_isOnBest_66 ci_1 rfl ?_
      refine v_goto (tgt := 71) dX5_isOnBest_67 (by decide) ?_
      exact v_zret dX5_isOnBest_71 rfl (by decide) rfl
    · refine v_iconst (n := 71) (v := 0) dX5_isOnBest_70 ci_0 rfl ?_
      exact v_zret dX5_isOnBest_71 rfl (by decide) rfl
theorem M_X5_isOnBest (G : GG) (a1 : Int32) (a2 : Int32) (a3 : Int32) (μ : Mem) (t : Int32 × Mem) (ht : f_X5_isOnBest a1 a2 a3 μ = some t) : GM G J_X5_isOnBest yX5_isOnBest [.ref (G.2.1 43), .int a1, .int a2, .int a3] μ (oI t) :=
  gm_of (J := J_X5_isOnBest) (k := kI) rfl (by decide) (Nat.le_of_ble_eq_true rfl) (v_X5_isOnBest G a1 a2 a3 μ) ht rfl
set_option maxRecDepth 100000 in
set_option maxHeartbeats 4000000 in
theorem vlp_X5_findBest_43 (G : GG) (x1v : Int32) (x2v : Int32) (x3v : Int32) (kk : (Int32 × Mem) → Option Oc) (hx : ∀ (x4v : Int32) (μ : Mem), V G J_X5_findBest 60 [(0, .ref (G.2.1 43)), (1, .int x1v), (2, .int x2v), (3, .int x3v), (4, .int x4v)] [] μ (kk (x4v, μ)) some) : ∀ (n : Nat) (x4v : Int32) (μ : Mem), V G J_X5_findBest 43 [(0, .ref (G.2.1 43)), (1, .int x1v), (2, .int x2v), (3, .int x3v), (4, .int x4v)] [] μ (lp_X5_findBest_43 x1v x2v x3v n x4v μ) kk := by
  intro n
  induction n with
  | zero => intro _ _; exact v_none
  | succ n ih =>
    intro x4v μ
    rw [lp_X5_findBest_43]
    refine v_aload_n (n := 44) dX5_findBest_43 rfl 0 rfl rfl ?_
    refine v_iload (n := 46) dX5_findBest_44 4 rfl rfl ?_
    refine v_iload_n (n := 47) dX5_findBest_46 rfl 2 rfl rfl ?_
    refine v_iload_n (n := 48) dX5_findBest_47 rfl 3 rfl rfl ?_
    refine v_cVi (n := 51) (st := []) [.int x4v, .int x2v, .int x3v] dX5_findBest_48 (fun t ht => M_X5_isOnBest G x4v x2v x3v μ t ht) cal_X5_isOnBest mw194 (show isO 43 5 from rfl) rfl rfl (Nat.le_of_ble_eq_true rfl) ⟨Nat.le_of_ble_eq_true rfl, Nat.le_of_ble_eq_true rfl⟩ rfl (fun x5 μ4 => ?_)
    refine v_if_ne (tgt := 60) (n := 54) dX5_findBest_51 (by decide) rfl ?_ ?_
    · refine v_iinc (n := 57) (w := 1) (fun x6 => [(4, .int x6), (0, .ref (G.2.1 43)), (1, .int x1v), (2, .int x2v), (3, .int x3v)]) dX5_findBest_54 4 rfl ci_1 (by decide) (fun _ => rfl) rfl (fun x6 => ?_)
      refine v_goto (tgt := 43) dX5_findBest_57 (by decide) ?_
      exact v_sub [1, 2, 3, 4, 0] rfl (ih x6 μ4)
    · exact v_leaf (hx x4v μ4)
set_option maxRecDepth 100000 in
set_option maxHeartbeats 4000000 in
theorem vjn_X5_findBest_40 (G : GG) (ih : Int32 → Int32 → Mem → Option (Mem)) (x1v : Int32) (x2v : Int32) (x3v : Int32) (kk : (Mem) → Option Oc) (hx : ∀ (μ : Mem), V G J_X5_findBest 120 [(1, .int x1v)] [] μ (kk μ) some) (hih : ∀ (w2v : Int32) (w3v : Int32) (μ : Mem), V G J_X5_findBest 18 [(0, .ref (G.2.1 43)), (1, .int x1v), (2, .int w2v), (3, .int w3v)] [] μ (ih w2v w3v μ) kk) (μ : Mem) : V G J_X5_findBest 40 [(0, .ref (G.2.1 43)), (1, .int x1v), (2, .int x2v), (3, .int x3v)] [] μ (jn_X5_findBest_40 ih x1v x2v x3v μ) kk := by
  rw [jn_X5_findBest_40]
  refine v_iconst (n := 41) (v := 0) dX5_findBest_40 ci_0 rfl ?_
  refine v_istore (n := 43) [(4, .int (0 : Int32)), (0, .ref (G.2.1 43)), (1, .int x1v), (2, .int x2v), (3, .int x3v)] dX5_findBest_41 (by decide) rfl rfl ?_
  refine v_sub [1, 2, 3, 4, 0] rfl ?_
  refine v_x2 (px := 60) (lx := (fun x7 μ8 => [(0, .ref (G.2.1 43)), (1, .int x1v), (2, .int x2v), (3, .int x3v), (4, .int x7)])) (mx := (fun x7 μ8 => μ8)) (fun kk hx => vlp_X5_findBest_43 G x1v x2v x3v kk hx FU (0 : Int32) μ) (fun x7 μ8 => ?_)
  refine v_aload_n (n := 61) dX5_findBest_60 rfl 0 rfl rfl ?_
  refine v_getR (n := 64) (i := 25) (q2 := 58) dX5_findBest_61 (show isO 43 5 from rfl) rfl fg_X5_52 rfl ?_
  refine v_aload_n (n := 65) dX5_findBest_64 rfl 0 rfl rfl ?_
  refine v_getI (n := 68) (i := 24) dX5_findBest_65 (show isO 43 5 from rfl) rfl fg_X5_165 rfl ?_
  refine v_iload (n := 70) dX5_findBest_68 4 rfl rfl ?_
  refine v_iast (n := 71) dX5_findBest_70 (show isA 58 14 from rfl) rfl ?_
  refine v_lm (fun μ9 => ?_)
  refine v_aload_n (n := 72) dX5_findBest_71 rfl 0 rfl rfl ?_
  refine v_getR (n := 75) (i := 26) (q2 := 59) dX5_findBest_72 (show isO 43 5 from rfl) rfl fg_X5_55 rfl ?_
  refine v_aload_n (n := 76) dX5_findBest_75 rfl 0 rfl rfl ?_
  refine v_getI (n := 79) (i := 24) dX5_findBest_76 (show isO 43 5 from rfl) rfl fg_X5_165 rfl ?_
  refine v_iload_n (n := 80) dX5_findBest_79 rfl 2 rfl rfl ?_
  refine v_iast (n := 81) dX5_findBest_80 (show isA 59 14 from rfl) rfl ?_
  refine v_lm (fun μ10 => ?_)
  refine v_aload_n (n := 82) dX5_findBest_81 rfl 0 rfl rfl ?_
  refine v_getR (n := 85) (i := 27) (q2 := 60) dX5_findBest_82 (show isO 43 5 from rfl) rfl fg_X5_58 rfl ?_
  refine v_aload_n (n := 86) dX5_findBest_85 rfl 0 rfl rfl ?_
  refine v_getI (n := 89) (i := 24) dX5_findBest_86 (show isO 43 5 from rfl) rfl fg_X5_165 rfl ?_
  refine v_iload_n (n := 90) dX5_findBest_89 rfl 3 rfl rfl ?_
  refine v_iast (n := 91) dX5_findBest_90 (show isA 60 14 from rfl) rfl ?_
  refine v_lm (fun μ11 => ?_)
  refine v_aload_n (n := 92) dX5_findBest_91 rfl 0 rfl rfl ?_
  refine v_dup (n := 93) dX5_findBest_92 rfl rfl ?_
  refine v_getI (n := 96) (i := 24) dX5_findBest_93 (show isO 43 5 from rfl) rfl fg_X5_165 rfl ?_
  refine v_iconst (n := 97) (v := 1) dX5_findBest_96 ci_1 rfl ?_
  refine v_iadd (n := 98) dX5_findBest_97 rfl ?_
  refine v_put (n := 101) (i := 24) dX5_findBest_98 (show isO 43 5 from rfl) rfl fp_X5_165 rfl rfl rfl ?_
  refine v_lm (fun μ12 => ?_)
  refine v_iload_n (n := 102) dX5_findBest_101 rfl 2 rfl rfl ?_
  refine v_iload (n := 104) dX5_findBest_102 4 rfl rfl ?_
  refine v_cSi (n := 107) (st := [.int x2v]) [.int x7] dX5_findBest_104 (fun t ht => M_X5_leftsOf G x7 μ12 t ht) cal_X5_leftsOf mw180 rfl rfl (Nat.le_of_ble_eq_true rfl) ⟨Nat.le_of_ble_eq_true rfl, Nat.le_of_ble_eq_true rfl⟩ rfl (fun x14 μ13 => ?_)
  refine v_iadd (n := 108) dX5_findBest_107 rfl ?_
  refine v_lt (fun x15 => ?_)
  refine v_istore_n (n := 109) [(2, .int x15), (0, .ref (G.2.1 43)), (1, .int x1v), (3, .int x3v), (4, .int x7)] dX5_findBest_108 rfl (by decide) rfl rfl ?_
  refine v_iload_n (n := 110) dX5_findBest_109 rfl 3 rfl rfl ?_
  refine v_iload (n := 112) dX5_findBest_110 4 rfl rfl ?_
  refine v_cSi (n := 115) (st := [.int x3v]) [.int x7] dX5_findBest_112 (fun t ht => M_X5_rightsOf G x7 μ13 t ht) cal_X5_rightsOf mw183 rfl rfl (Nat.le_of_ble_eq_true rfl) ⟨Nat.le_of_ble_eq_true rfl, Nat.le_of_ble_eq_true rfl⟩ rfl (fun x17 μ16 => ?_)
  refine v_iadd (n := 116) dX5_findBest_115 rfl ?_
  refine v_lt (fun x18 => ?_)
  refine v_istore_n (n := 117) [(3, .int x18), (2, .int x15), (0, .ref (G.2.1 43)), (1, .int x1v), (4, .int x7)] dX5_findBest_116 rfl (by decide) rfl rfl ?_
  refine v_goto (tgt := 18) dX5_findBest_117 (by decide) ?_
  exact v_sub [2, 3, 1, 0] rfl (hih x15 x18 μ16)
set_option maxRecDepth 100000 in
set_option maxHeartbeats 4000000 in
theorem vlp_X5_findBest_18 (G : GG) (x1v : Int32) (kk : (Mem) → Option Oc) (hx : ∀ (μ : Mem), V G J_X5_findBest 120 [(1, .int x1v)] [] μ (kk μ) some) : ∀ (n : Nat) (x2v : Int32) (x3v : Int32) (μ : Mem), V G J_X5_findBest 18 [(0, .ref (G.2.1 43)), (1, .int x1v), (2, .int x2v), (3, .int x3v)] [] μ (lp_X5_findBest_18 x1v n x2v x3v μ) kk := by
  intro n
  induction n with
  | zero => intro _ _ _; exact v_none
  | succ n ih =>
    intro x2v x3v μ
    rw [lp_X5_findBest_18]
    refine v_iload_n (n := 19) dX5_findBest_18 rfl 1 rfl rfl ?_
    refine v_bipush (n := 21) (v := -9) dX5_findBest_19 cb_m9 rfl ?_
    refine v_icmp_eq (tgt := 120) (n := 24) dX5_findBest_21 (by decide) rfl ?_ ?_
    · exact v_leaf (v_sub [1] rfl (hx  μ))
    · refine v_iload_n (n := 25) dX5_findBest_24 rfl 2 rfl rfl ?_
      refine v_aload_n (n := 26) dX5_findBest_25 rfl 0 rfl rfl ?_
      refine v_getI (n := 29) (i := 5) dX5_findBest_26 (show isO 43 5 from rfl) rfl fg_X5_80 rfl ?_
      refine v_icmp_lt (tgt := 40) (n := 32) dX5_findBest_29 (by decide) rfl ?_ ?_
      · exact vjn_X5_findBest_40 G (lp_X5_findBest_18 x1v n) x1v x2v x3v kk hx ih μ
      · refine v_iload_n (n := 33) dX5_findBest_32 rfl 3 rfl rfl ?_
        refine v_aload_n (n := 34) dX5_findBest_33 rfl 0 rfl rfl ?_
        refine v_getI (n := 37) (i := 6) dX5_findBest_34 (show isO 43 5 from rfl) rfl fg_X5_83 rfl ?_
        refine v_icmp_ge (tgt := 120) (n := 40) dX5_findBest_37 (by decide) rfl ?_ ?_
        · exact v_leaf (v_sub [1] rfl (hx  μ))
        · exact vjn_X5_findBest_40 G (lp_X5_findBest_18 x1v n) x1v x2v x3v kk hx ih μ
set_option maxRecDepth 100000 in
set_option maxHeartbeats 4000000 in
theorem v_X5_findBest (G : GG) (μ : Mem) : V G J_X5_findBest 0 [(0, .ref (G.2.1 43))] [] μ (f_X5_findBest μ) kI := by
  rw [f_X5_findBest]
  refine v_aload_n (n := 1) dX5_findBest_0 rfl 0 rfl rfl ?_
  refine v_aload_n (n := 2) dX5_findBest_1 rfl 0 rfl rfl ?_
  refine v_getI (n := 5) (i := 9) dX5_findBest_2 (show isO 43 5 from rfl) rfl fg_X5_119 rfl ?_
  refine v_cVi (n := 8) (st := []) [.int (μ 43 9)] dX5_findBest_5 (fun t ht => M_X5_findAll G (μ 43 9) μ t ht) cal_X5_findAll mw192 (show isO 43 5 from rfl) rfl rfl (Nat.le_of_ble_eq_true rfl) ⟨Nat.le_of_ble_eq_true rfl, Nat.le_of_ble_eq_true rfl⟩ rfl (fun x2 μ1 => ?_)
  refine v_istore_n (n := 9) [(1, .int x2), (0, .ref (G.2.1 43))] dX5_findBest_8 rfl (by decide) rfl rfl ?_
  refine v_aload_n (n := 10) dX5_findBest_9 rfl 1 rfl rfl ?_
  refine v_iconst (n := 11) (v := 0) dX5_findBest_10 ci_0 rfl ?_
  refine v_put (n := 14) (i := 24) dX5_findBest_11 (show isO 43 5 from rfl) rfl fp_X5_165 rfl rfl rfl ?_
  refine v_lm (fun μ3 => ?_)
  refine v_iconst (n := 15) (v := 0) dX5_findBest_14 ci_0 rfl ?_
  refine v_istore_n (n := 16) [(2, .int (0 : Int32)), (1, .int x2), (0, .ref (G.2.1 43))] dX5_findBest_15 rfl (by decide) rfl rfl ?_
  refine v_iconst (n := 17) (v := 0) dX5_findBest_16 ci_0 rfl ?_
  refine v_istore_n (n := 18) [(3, .int (0 : Int32)), (2, .int (0 : Int32)), (1, .int x2), (0, .ref (G.2.1 43))] dX5_findBest_17 rfl (by decide) rfl rfl ?_
  refine v_sub [3, 2, 1, 0] rfl ?_
  refine v_x1 (px := 120) (lx := (fun μ19 => [(1, .int x2)])) (mx := (fun μ19 => μ19)) (fun kk hx => vlp_X5_findBest_18 G x2 kk hx FU (0 : Int32) (0 : Int32) μ3) (fun μ19 => ?_)
  refine v_iload_n (n := 121) dX5_findBest_120 rfl 0 rfl rfl ?_
  exact v_iret dX5_findBest_121 rfl rfl
theorem M_X5_findBest (G : GG) (μ : Mem) (t : Int32 × Mem) (ht : f_X5_findBest μ = some t) : GM G J_X5_findBest yX5_findBest [.ref (G.2.1 43)] μ (oI t) :=
  gm_of (J := J_X5_findBest) (k := kI) rfl (by decide) (Nat.le_of_ble_eq_true rfl) (v_X5_findBest G μ) ht rfl
set_option maxRecDepth 100000 in
set_option maxHeartbeats 4000000 in
theorem vjn_X5_pairedWith_116 (G : GG) (ih : Int32 → Int32 → Mem → Option (Int32 × Mem)) (x1v : Int32) (x2v : Int32) (x3v : Int32) (x4v : Int32) (x5v : Int32) (x6v : Int32) (x7v : Int32) (s0v : Int32) (kk : (Int32 × Mem) → Option Oc) (hx : ∀ (w3v : Int32) (μ : Mem), V G J_X5_pairedWith 155 [(3, .int w3v)] [] μ (kk (w3v, μ)) some) (hih : ∀ (w3v : Int32) (w4v : Int32) (μ : Mem), V G J_X5_pairedWith 5 [(0, .ref (G.2.1 43)), (1, .int x1v), (2, .int x2v), (3, .int w3v), (4, .int w4v)] [] μ (ih w3v w4v μ) kk) (μ : Mem) : V G J_X5_pairedWith 116 [(0, .ref (G.2.1 43)), (1, .int x1v), (2, .int x2v), (3, .int x3v), (4, .int x4v), (5, .int x5v), (6, .int x6v), (7, .int x7v)] [.int s0v] μ (jn_X5_pairedWith_116 ih x1v x2v x3v x4v x5v x6v x7v s0v μ) kk := by
  rw [jn_X5_pairedWith_116]
  refine v_istore (n := 118) [(8, .int s0v), (0, .ref (G.2.1 43)), (1, .int x1v), (2, .int x2v), (3, .int x3v), (4, .int x4v), (5, .int x5v), (6, .int x6v), (7, .int x7v)] dX5_pairedWith_116 (by decide) rfl rfl ?_
  refine v_iload_n (n := 119) dX5_pairedWith_118 rfl 4 rfl rfl ?_
  refine v_iload_n (n := 120) dX5_pairedWith_119 rfl 3 rfl rfl ?_
  refine v_iload (n := 122) dX5_pairedWith_120 6 rfl rfl ?_
  refine v_icmp_lt (tgt := 146) (n := 125) dX5_pairedWith_122 (by decide) rfl ?_ ?_
  · refine v_iconst (n := 147) (v := 0) dX5_pairedWith_146 ci_0 rfl ?_
    refine v_ior (n := 148) dX5_pairedWith_147 rfl ?_
    refine v_lt (fun x5 => ?_)
    refine v_istore_n (n := 149) [(3, .int x5), (8, .int s0v), (0, .ref (G.2.1 43)), (1, .int x1v), (2, .int x2v), (4, .int x4v), (5, .int x5v), (6, .int x6v), (7, .int x7v)] dX5_pairedWith_148 rfl (by decide) rfl rfl ?_
    refine v_iinc (n := 152) (w := 1) (fun x6 => [(4, .int x6), (3, .int x5), (8, .int s0v), (0, .ref (G.2.1 43)), (1, .int x1v), (2, .int x2v), (5, .int x5v), (6, .int x6v), (7, .int x7v)]) dX5_pairedWith_149 5 rfl ci_1 (by decide) (fun _ => rfl) rfl (fun x6 => ?_)
    refine v_goto (tgt := 5) dX5_pairedWith_152 (by decide) ?_
    exact v_sub [3, 4, 5, 1, 0] rfl (hih x5 x6 μ)
  · refine v_iload_n (n := 126) dX5_pairedWith_125 rfl 3 rfl rfl ?_
    refine v_iload (n := 128) dX5_pairedWith_126 6 rfl rfl ?_
    refine v_iload (n := 130) dX5_pairedWith_128 7 rfl rfl ?_
    refine v_iadd (n := 131) dX5_pairedWith_130 rfl ?_
    refine v_icmp_ge (tgt := 146) (n := 134) dX5_pairedWith_131 (by decide) rfl ?_ ?_
    · refine v_iconst (n := 147) (v := 0) dX5_pairedWith_146 ci_0 rfl ?_
      refine v_ior (n := 148) dX5_pairedWith_147 rfl ?_
      refine v_lt (fun x7 => ?_)
      refine v_istore_n (n := 149) [(3, .int x7), (8, .int s0v), (0, .ref (G.2.1 43)), (1, .int x1v), (2, .int x2v), (4, .int x4v), (5, .int x5v), (6, .int x6v), (7, .int x7v)] dX5_pairedWith_148 rfl (by decide) rfl rfl ?_
      refine v_iinc (n := 152) (w := 1) (fun x8 => [(4, .int x8), (3, .int x7), (8, .int s0v), (0, .ref (G.2.1 43)), (1, .int x1v), (2, .int x2v), (5, .int x5v), (6, .int x6v), (7, .int x7v)]) dX5_pairedWith_149 5 rfl ci_1 (by decide) (fun _ => rfl) rfl (fun x8 => ?_)
      refine v_goto (tgt := 5) dX5_pairedWith_152 (by decide) ?_
      exact v_sub [3, 4, 5, 1, 0] rfl (hih x7 x8 μ)
    · refine v_iconst (n := 135) (v := 1) dX5_pairedWith_134 ci_1 rfl ?_
      refine v_iload (n := 137) dX5_pairedWith_135 0 rfl rfl ?_
      refine v_ishl (n := 138) dX5_pairedWith_137 rfl ?_
      refine v_iconst (n := 139) (v := 1) dX5_pairedWith_138 ci_1 rfl ?_
      refine v_isub (n := 140) dX5_pairedWith_139 rfl ?_
      refine v_iload (n := 142) dX5_pairedWith_140 8 rfl rfl ?_
      refine v_ishl (n := 143) dX5_pairedWith_142 rfl ?_
      refine v_goto (tgt := 147) dX5_pairedWith_143 (by decide) ?_
      refine v_ior (n := 148) dX5_pairedWith_147 rfl ?_
      refine v_lt (fun x9 => ?_)
      refine v_istore_n (n := 149) [(3, .int x9), (8, .int s0v), (0, .ref (G.2.1 43)), (1, .int x1v), (2, .int x2v), (4, .int x4v), (5, .int x5v), (6, .int x6v), (7, .int x7v)] dX5_pairedWith_148 rfl (by decide) rfl rfl ?_
      refine v_iinc (n := 152) (w := 1) (fun x10 => [(4, .int x10), (3, .int x9), (8, .int s0v), (0, .ref (G.2.1 43)), (1, .int x1v), (2, .int x2v), (5, .int x5v), (6, .int x6v), (7, .int x7v)]) dX5_pairedWith_149 5 rfl ci_1 (by decide) (fun _ => rfl) rfl (fun x10 => ?_)
      refine v_goto (tgt := 5) dX5_pairedWith_152 (by decide) ?_
      exact v_sub [3, 4, 5, 1, 0] rfl (hih x9 x10 μ)
set_option maxRecDepth 100000 in
set_option maxHeartbeats 4000000 in
theorem vjn_X5_pairedWith_87 (G : GG) (ih : Int32 → Int32 → Mem → Option (Int32 × Mem)) (x1v : Int32) (x2v : Int32) (x3v : Int32) (x4v : Int32) (x5v : Int32) (x6v : Int32) (s0v : Int32) (kk : (Int32 × Mem) → Option Oc) (hx : ∀ (w3v : Int32) (μ : Mem), V G J_X5_pairedWith 155 [(3, .int w3v)] [] μ (kk (w3v, μ)) some) (hih : ∀ (w3v : Int32) (w4v : Int32) (μ : Mem), V G J_X5_pairedWith 5 [(0, .ref (G.2.1 43)), (1, .int x1v), (2, .int x2v), (3, .int w3v), (4, .int w4v)] [] μ (ih w3v w4v μ) kk) (μ : Mem) : V G J_X5_pairedWith 87 [(0, .ref (G.2.1 43)), (1, .int x1v), (2, .int x2v), (3, .int x3v), (4, .int x4v), (5, .int x5v), (6, .int x6v)] [.int s0v] μ (jn_X5_pairedWith_87 ih x1v x2v x3v x4v x5v x6v s0v μ) kk := by
  rw [jn_X5_pairedWith_87]
  refine v_istore (n := 89) [(7, .int s0v), (0, .ref (G.2.1 43)), (1, .int x1v), (2, .int x2v), (3, .int x3v), (4, .int x4v), (5, .int x5v), (6, .int x6v)] dX5_pairedWith_87 (by decide) rfl rfl ?_
  refine v_iload_n (n := 90) dX5_pairedWith_89 rfl 2 rfl rfl ?_
  refine v_if_ne (tgt := 106) (n := 93) dX5_pairedWith_90 (by decide) rfl ?_ ?_
  · refine v_aload_n (n := 94) dX5_pairedWith_93 rfl 1 rfl rfl ?_
    refine v_getR (n := 97) (i := 25) (q2 := 58) dX5_pairedWith_94 (show isO 43 5 from rfl) rfl fg_X5_52 rfl ?_
    refine v_iload (n := 99) dX5_pairedWith_97 5 rfl rfl ?_
    refine v_iald (n := 100) dX5_pairedWith_99 (show isA 58 14 from rfl) rfl ?_
    refine v_cSi (n := 103) (st := []) [.int (μ 58 x4v.toNatClampNeg)] dX5_pairedWith_100 (fun t ht => M_X5_rightsOf G (μ 58 x4v.toNatClampNeg) μ t ht) cal_X5_rightsOf mw183 rfl rfl (Nat.le_of_ble_eq_true rfl) ⟨Nat.le_of_ble_eq_true rfl, Nat.le_of_ble_eq_true rfl⟩ rfl (fun x12 μ11 => ?_)
    refine v_goto (tgt := 116) dX5_pairedWith_103 (by decide) ?_
    exact v_sub [1, 2, 3, 4, 5, 6, 7, 0] rfl (vjn_X5_pairedWith_116 G ih x1v x2v x3v x4v x5v x6v s0v x12 kk hx hih μ11)
  · refine v_aload_n (n := 107) dX5_pairedWith_106 rfl 1 rfl rfl ?_
    refine v_getR (n := 110) (i := 25) (q2 := 58) dX5_pairedWith_107 (show isO 43 5 from rfl) rfl fg_X5_52 rfl ?_
    refine v_iload (n := 112) dX5_pairedWith_110 5 rfl rfl ?_
    refine v_iald (n := 113) dX5_pairedWith_112 (show isA 58 14 from rfl) rfl ?_
    refine v_cSi (n := 116) (st := []) [.int (μ 58 x4v.toNatClampNeg)] dX5_pairedWith_113 (fun t ht => M_X5_leftsOf G (μ 58 x4v.toNatClampNeg) μ t ht) cal_X5_leftsOf mw180 rfl rfl (Nat.le_of_ble_eq_true rfl) ⟨Nat.le_of_ble_eq_true rfl, Nat.le_of_ble_eq_true rfl⟩ rfl (fun x4 μ3 => ?_)
    exact v_sub [1, 2, 3, 4, 5, 6, 7, 0] rfl (vjn_X5_pairedWith_116 G ih x1v x2v x3v x4v x5v x6v s0v x4 kk hx hih μ3)
set_option maxRecDepth 100000 in
set_option maxHeartbeats 4000000 in
theorem vjn_X5_pairedWith_64 (G : GG) (ih : Int32 → Int32 → Mem → Option (Int32 × Mem)) (x1v : Int32) (x2v : Int32) (x3v : Int32) (x4v : Int32) (x5v : Int32) (s0v : Int32) (kk : (Int32 × Mem) → Option Oc) (hx : ∀ (w3v : Int32) (μ : Mem), V G J_X5_pairedWith 155 [(3, .int w3v)] [] μ (kk (w3v, μ)) some) (hih : ∀ (w3v : Int32) (w4v : Int32) (μ : Mem), V G J_X5_pairedWith 5 [(0, .ref (G.2.1 43)), (1, .int x1v), (2, .int x2v), (3, .int w3v), (4, .int w4v)] [] μ (ih w3v w4v μ) kk) (μ : Mem) : V G J_X5_pairedWith 64 [(0, .ref (G.2.1 43)), (1, .int x1v), (2, .int x2v), (3, .int x3v), (4, .int x4v), (5, .int x5v)] [.int s0v] μ (jn_X5_pairedWith_64 ih x1v x2v x3v x4v x5v s0v μ) kk := by
  rw [jn_X5_pairedWith_64]
  refine v_istore (n := 66) [(6, .int s0v), (0, .ref (G.2.1 43)), (1, .int x1v), (2, .int x2v), (3, .int x3v), (4, .int x4v), (5, .int x5v)] dX5_pairedWith_64 (by decide) rfl rfl ?_
  refine v_iload_n (n := 67) dX5_pairedWith_66 rfl 2 rfl rfl ?_
  refine v_if_ne (tgt := 80) (n := 70) dX5_pairedWith_67 (by decide) rfl ?_ ?_
  · refine v_aload_n (n := 71) dX5_pairedWith_70 rfl 1 rfl rfl ?_
    refine v_getR (n := 74) (i := 27) (q2 := 60) dX5_pairedWith_71 (show isO 43 5 from rfl) rfl fg_X5_58 rfl ?_
    refine v_iload (n := 76) dX5_pairedWith_74 5 rfl rfl ?_
    refine v_iald (n := 77) dX5_pairedWith_76 (show isA 60 14 from rfl) rfl ?_
    refine v_goto (tgt := 87) dX5_pairedWith_77 (by decide) ?_
    exact v_sub [1, 2, 3, 4, 5, 6, 0] rfl (vjn_X5_pairedWith_87 G ih x1v x2v x3v x4v x5v s0v (μ 60 x4v.toNatClampNeg) kk hx hih μ)
  · refine v_aload_n (n := 81) dX5_pairedWith_80 rfl 1 rfl rfl ?_
    refine v_getR (n := 84) (i := 26) (q2 := 59) dX5_pairedWith_81 (show isO 43 5 from rfl) rfl fg_X5_55 rfl ?_
    refine v_iload (n := 86) dX5_pairedWith_84 5 rfl rfl ?_
    refine v_iald (n := 87) dX5_pairedWith_86 (show isA 59 14 from rfl) rfl ?_
    exact v_sub [1, 2, 3, 4, 5, 6, 0] rfl (vjn_X5_pairedWith_87 G ih x1v x2v x3v x4v x5v s0v (μ 59 x4v.toNatClampNeg) kk hx hih μ)
set_option maxRecDepth 100000 in
set_option maxHeartbeats 4000000 in
theorem vjn_X5_pairedWith_35 (G : GG) (ih : Int32 → Int32 → Mem → Option (Int32 × Mem)) (x1v : Int32) (x2v : Int32) (x3v : Int32) (x4v : Int32) (s0v : Int32) (kk : (Int32 × Mem) → Option Oc) (hx : ∀ (w3v : Int32) (μ : Mem), V G J_X5_pairedWith 155 [(3, .int w3v)] [] μ (kk (w3v, μ)) some) (hih : ∀ (w3v : Int32) (w4v : Int32) (μ : Mem), V G J_X5_pairedWith 5 [(0, .ref (G.2.1 43)), (1, .int x1v), (2, .int x2v), (3, .int w3v), (4, .int w4v)] [] μ (ih w3v w4v μ) kk) (μ : Mem) : V G J_X5_pairedWith 35 [(0, .ref (G.2.1 43)), (1, .int x1v), (2, .int x2v), (3, .int x3v), (4, .int x4v)] [.int s0v] μ (jn_X5_pairedWith_35 ih x1v x2v x3v x4v s0v μ) kk := by
  rw [jn_X5_pairedWith_35]
  refine v_istore (n := 37) [(5, .int s0v), (0, .ref (G.2.1 43)), (1, .int x1v), (2, .int x2v), (3, .int x3v), (4, .int x4v)] dX5_pairedWith_35 (by decide) rfl rfl ?_
  refine v_iload_n (n := 38) dX5_pairedWith_37 rfl 2 rfl rfl ?_
  refine v_if_ne (tgt := 54) (n := 41) dX5_pairedWith_38 (by decide) rfl ?_ ?_
  · refine v_aload_n (n := 42) dX5_pairedWith_41 rfl 1 rfl rfl ?_
    refine v_getR (n := 45) (i := 25) (q2 := 58) dX5_pairedWith_42 (show isO 43 5 from rfl) rfl fg_X5_52 rfl ?_
    refine v_iload (n := 47) dX5_pairedWith_45 5 rfl rfl ?_
    refine v_iald (n := 48) dX5_pairedWith_47 (show isA 58 14 from rfl) rfl ?_
    refine v_cSi (n := 51) (st := []) [.int (μ 58 x4v.toNatClampNeg)] dX5_pairedWith_48 (fun t ht => M_X5_leftsOf G (μ 58 x4v.toNatClampNeg) μ t ht) cal_X5_leftsOf mw180 rfl rfl (Nat.le_of_ble_eq_true rfl) ⟨Nat.le_of_ble_eq_true rfl, Nat.le_of_ble_eq_true rfl⟩ rfl (fun x14 μ13 => ?_)
    refine v_goto (tgt := 64) dX5_pairedWith_51 (by decide) ?_
    exact v_sub [1, 2, 3, 4, 5, 0] rfl (vjn_X5_pairedWith_64 G ih x1v x2v x3v x4v s0v x14 kk hx hih μ13)
  · refine v_aload_n (n := 55) dX5_pairedWith_54 rfl 1 rfl rfl ?_
    refine v_getR (n := 58) (i := 25) (q2 := 58) dX5_pairedWith_55 (show isO 43 5 from rfl) rfl fg_X5_52 rfl ?_
    refine v_iload (n := 60) dX5_pairedWith_58 5 rfl rfl ?_
    refine v_iald (n := 61) dX5_pairedWith_60 (show isA 58 14 from rfl) rfl ?_
    refine v_cSi (n := 64) (st := []) [.int (μ 58 x4v.toNatClampNeg)] dX5_pairedWith_61 (fun t ht => M_X5_rightsOf G (μ 58 x4v.toNatClampNeg) μ t ht) cal_X5_rightsOf mw183 rfl rfl (Nat.le_of_ble_eq_true rfl) ⟨Nat.le_of_ble_eq_true rfl, Nat.le_of_ble_eq_true rfl⟩ rfl (fun x2 μ1 => ?_)
    exact v_sub [1, 2, 3, 4, 5, 0] rfl (vjn_X5_pairedWith_64 G ih x1v x2v x3v x4v s0v x2 kk hx hih μ1)
set_option maxRecDepth 100000 in
set_option maxHeartbeats 4000000 in
theorem vlp_X5_pairedWith_5 (G : GG) (x1v : Int32) (x2v : Int32) (kk : (Int32 × Mem) → Option Oc) (hx : ∀ (x3v : Int32) (μ : Mem), V G J_X5_pairedWith 155 [(3, .int x3v)] [] μ (kk (x3v, μ)) some) : ∀ (n : Nat) (x3v : Int32) (x4v : Int32) (μ : Mem), V G J_X5_pairedWith 5 [(0, .ref (G.2.1 43)), (1, .int x1v), (2, .int x2v), (3, .int x3v), (4, .int x4v)] [] μ (lp_X5_pairedWith_5 x1v x2v n x3v x4v μ) kk := by
  intro n
  induction n with
  | zero => intro _ _ _; exact v_none
  | succ n ih =>
    intro x3v x4v μ
    rw [lp_X5_pairedWith_5]
    refine v_iload (n := 7) dX5_pairedWith_5 4 rfl rfl ?_
    refine v_aload_n (n := 8) dX5_pairedWith_7 rfl 0 rfl rfl ?_
    refine v_getI (n := 11) (i := 24) dX5_pairedWith_8 (show isO 43 5 from rfl) rfl fg_X5_165 rfl ?_
    refine v_icmp_ge (tgt := 155) (n := 14) dX5_pairedWith_11 (by decide) rfl ?_ ?_
    · exact v_leaf (v_sub [3] rfl (hx x3v μ))
    · refine v_iload_n (n := 15) dX5_pairedWith_14 rfl 1 rfl rfl ?_
      refine v_if_ne (tgt := 28) (n := 18) dX5_pairedWith_15 (by decide) rfl ?_ ?_
      · refine v_aload_n (n := 19) dX5_pairedWith_18 rfl 0 rfl rfl ?_
        refine v_getR (n := 22) (i := 26) (q2 := 59) dX5_pairedWith_19 (show isO 43 5 from rfl) rfl fg_X5_55 rfl ?_
        refine v_iload (n := 24) dX5_pairedWith_22 4 rfl rfl ?_
        refine v_iald (n := 25) dX5_pairedWith_24 (show isA 59 14 from rfl) rfl ?_
        refine v_goto (tgt := 35) dX5_pairedWith_25 (by decide) ?_
        exact vjn_X5_pairedWith_35 G (lp_X5_pairedWith_5 x1v x2v n) x1v x2v x3v x4v (μ 59 x4v.toNatClampNeg) kk hx ih μ
      · refine v_aload_n (n := 29) dX5_pairedWith_28 rfl 0 rfl rfl ?_
        refine v_getR (n := 32) (i := 27) (q2 := 60) dX5_pairedWith_29 (show isO 43 5 from rfl) rfl fg_X5_58 rfl ?_
        refine v_iload (n := 34) dX5_pairedWith_32 4 rfl rfl ?_
        refine v_iald (n := 35) dX5_pairedWith_34 (show isA 60 14 from rfl) rfl ?_
        exact vjn_X5_pairedWith_35 G (lp_X5_pairedWith_5 x1v x2v n) x1v x2v x3v x4v (μ 60 x4v.toNatClampNeg) kk hx ih μ
set_option maxRecDepth 100000 in
set_option maxHeartbeats 4000000 in
theorem v_X5_pairedWith (G : GG) (a1 : Int32) (a2 : Int32) (μ : Mem) : V G J_X5_pairedWith 0 [(0, .ref (G.2.1 43)), (1, .int a1), (2, .int a2)] [] μ (f_X5_pairedWith a1 a2 μ) kI := by
  rw [f_X5_pairedWith]
  refine v_iconst (n := 1) (v := 0) dX5_pairedWith_0 ci_0 rfl ?_
  refine v_istore_n (n := 2) [(3, .int (0 : Int32)), (0, .ref (G.2.1 43)), (1, .int a1), (2, .int a2)] dX5_pairedWith_1 rfl (by decide) rfl rfl ?_
  refine v_iconst (n := 3) (v := 0) dX5_pairedWith_2 ci_0 rfl ?_
  refine v_istore (n := 5) [(4, .int (0 : Int32)), (3, .int (0 : Int32)), (0, .ref (G.2.1 43)), (1, .int a1), (2, .int a2)] dX5_pairedWith_3 (by decide) rfl rfl ?_
  refine v_sub [2, 3, 4, 1, 0] rfl ?_
  refine v_x2 (px := 155) (lx := (fun x15 μ16 => [(3, .int x15)])) (mx := (fun x15 μ16 => μ16)) (fun kk hx => vlp_X5_pairedWith_5 G a1 a2 kk hx FU (0 : Int32) (0 : Int32) μ) (fun x15 μ16 => ?_)
  refine v_iload_n (n := 156) dX5_pairedWith_155 rfl 0 rfl rfl ?_
  exact v_iret dX5_pairedWith_156 rfl rfl
theorem M_X5_pairedWith (G : GG) (a1 : Int32) (a2 : Int32) (μ : Mem) (t : Int32 × Mem) (ht : f_X5_pairedWith a1 a2 μ = some t) : GM G J_X5_pairedWith yX5_pairedWith [.ref (G.2.1 43), .int a1, .int a2] μ (oI t) :=
  gm_of (J := J_X5_pairedWith) (k := kI) rfl (by decide) (Nat.le_of_ble_eq_true rfl) (v_X5_pairedWith G a1 a2 μ) ht rfl
set_option maxRecDepth 100000 in
set_option maxHeartbeats 4000000 in
theorem v_X5_ofLeft (G : GG) (a1 : Int32) (a2 : Int32) (μ : Mem) : V G J_X5_ofLeft 0 [(0, .ref (G.2.1 43)), (1, .int a1), (2, .int a2)] [] μ (f_X5_ofLeft a1 a2 μ) kI := by
  rw [f_X5_ofLeft]
  refine v_aload_n (n := 1) dX5_ofLeft_0 rfl 0 rfl rfl ?_
  refine v_iload_n (n := 2) dX5_ofLeft_1 rfl 1 rfl rfl ?_
  refine v_cVi (n := 5) (st := []) [.int a1] dX5_ofLeft_2 (fun t ht => M_X5_isLeft G a1 μ t ht) cal_X5_isLeft mw198 (show isO 43 5 from rfl) rfl rfl (Nat.le_of_ble_eq_true rfl) ⟨Nat.le_of_ble_eq_true rfl, Nat.le_of_ble_eq_true rfl⟩ rfl (fun x2 μ1 => ?_)
  refine v_if_ne (tgt := 10) (n := 8) dX5_ofLeft_5 (by decide) rfl ?_ ?_
  · refine v_iconst (n := 9) (v := -1) dX5_ofLeft_8 ci_m1 rfl ?_
    exact v_iret dX5_ofLeft_9 rfl rfl
  · refine v_iload_n (n := 11) dX5_ofLeft_10 rfl 2 rfl rfl ?_
    refine v_swif ?_ (fun hs0 => ?_)
    · refine v_tblI (tgt := 44) dX5_ofLeft_11 (by decide) (by decide) rfl (by decide) ?_
      refine v_aload_n (n := 45) dX5_ofLeft_44 rfl 0 rfl rfl ?_
      refine v_getR (n := 48) (i := 10) (q2 := 47) dX5_ofLeft_45 (show isO 43 5 from rfl) rfl fg_X5_19 rfl ?_
      refine v_iload_n (n := 49) dX5_ofLeft_48 rfl 1 rfl rfl ?_
      refine v_iald (n := 50) dX5_ofLeft_49 (show isA 47 7 from rfl) rfl ?_
      exact v_iret dX5_ofLeft_50 rfl rfl
    refine v_swif ?_ (fun hs1 => ?_)
    · refine v_tblI (tgt := 51) dX5_ofLeft_11 (by decide) (by decide) rfl (by decide) ?_
      refine v_aload_n (n := 52) dX5_ofLeft_51 rfl 0 rfl rfl ?_
      refine v_getR (n := 55) (i := 11) (q2 := 48) dX5_ofLeft_52 (show isO 43 5 from rfl) rfl fg_X5_22 rfl ?_
      refine v_iload_n (n := 56) dX5_ofLeft_55 rfl 1 rfl rfl ?_
      refine v_iald (n := 57) dX5_ofLeft_56 (show isA 48 7 from rfl) rfl ?_
      exact v_iret dX5_ofLeft_57 rfl rfl
    refine v_swif ?_ (fun hs2 => ?_)
    · refine v_tblI (tgt := 58) dX5_ofLeft_11 (by decide) (by decide) rfl (by decide) ?_
      refine v_aload_n (n := 59) dX5_ofLeft_58 rfl 0 rfl rfl ?_
      refine v_iload_n (n := 60) dX5_ofLeft_59 rfl 1 rfl rfl ?_
      refine v_cVi (n := 63) (st := []) [.int a1] dX5_ofLeft_60 (fun t ht => M_X5_lengthOf G a1 μ1 t ht) cal_X5_lengthOf mw181 (show isO 43 5 from rfl) rfl rfl (Nat.le_of_ble_eq_true rfl) ⟨Nat.le_of_ble_eq_true rfl, Nat.le_of_ble_eq_true rfl⟩ rfl (fun x4 μ3 => ?_)
      exact v_iret dX5_ofLeft_63 rfl rfl
    refine v_swif ?_ (fun hs3 => ?_)
    · refine v_tblI (tgt := 64) dX5_ofLeft_11 (by decide) (by decide) rfl (by decide) ?_
      refine v_aload_n (n := 65) dX5_ofLeft_64 rfl 0 rfl rfl ?_
      refine v_getR (n := 68) (i := 12) (q2 := 49) dX5_ofLeft_65 (show isO 43 5 from rfl) rfl fg_X5_25 rfl ?_
      refine v_iload_n (n := 69) dX5_ofLeft_68 rfl 1 rfl rfl ?_
      refine v_iald (n := 70) dX5_ofLeft_69 (show isA 49 7 from rfl) rfl ?_
      exact v_iret dX5_ofLeft_70 rfl rfl
    refine v_swif ?_ (fun hs4 => ?_)
    · refine v_tblI (tgt := 71) dX5_ofLeft_11 (by decide) (by decide) rfl (by decide) ?_
      refine v_aload_n (n := 72) dX5_ofLeft_71 rfl 0 rfl rfl ?_
      refine v_cVi (n := 75) (st := []) [] dX5_ofLeft_72 (fun t ht => M_X5_findBest G μ1 t ht) cal_X5_findBest mw199 (show isO 43 5 from rfl) rfl rfl (Nat.le_of_ble_eq_true rfl) ⟨Nat.le_of_ble_eq_true rfl, Nat.le_of_ble_eq_true rfl⟩ rfl (fun x6 μ5 => ?_)
      refine v_pop (n := 76) dX5_ofLeft_75 rfl rfl ?_
      refine v_aload_n (n := 77) dX5_ofLeft_76 rfl 0 rfl rfl ?_
      refine v_iconst (n := 78) (v := 0) dX5_ofLeft_77 ci_0 rfl ?_
      refine v_iload_n (n := 79) dX5_ofLeft_78 rfl 1 rfl rfl ?_
      refine v_cVi (n := 82) (st := []) [.int (0 : Int32), .int a1] dX5_ofLeft_79 (fun t ht => M_X5_pairedWith G (0 : Int32) a1 μ5 t ht) cal_X5_pairedWith mw200 (show isO 43 5 from rfl) rfl rfl (Nat.le_of_ble_eq_true rfl) ⟨Nat.le_of_ble_eq_true rfl, Nat.le_of_ble_eq_true rfl⟩ rfl (fun x8 μ7 => ?_)
      exact v_iret dX5_ofLeft_82 rfl rfl
    refine v_tblO (tgt := 83) dX5_ofLeft_11 (by have hs0 := lv_neT hs0 (by decide : (0 : Int32).toInt = 0); have hs1 := lv_neT hs1 (by decide : (1 : Int32).toInt = 1); have hs2 := lv_neT hs2 (by decide : (2 : Int32).toInt = 2); have hs3 := lv_neT hs3 (by decide : (3 : Int32).toInt = 3); have hs4 := lv_neT hs4 (by decide : (4 : Int32).toInt = 4); omega) (by decide) ?_
    refine v_bipush (n := 85) (v := -2) dX5_ofLeft_83 cb_m2 rfl ?_
    exact v_iret dX5_ofLeft_85 rfl rfl
theorem M_X5_ofLeft (G : GG) (a1 : Int32) (a2 : Int32) (μ : Mem) (t : Int32 × Mem) (ht : f_X5_ofLeft a1 a2 μ = some t) : GM G J_X5_ofLeft yX5_ofLeft [.ref (G.2.1 43), .int a1, .int a2] μ (oI t) :=
  gm_of (J := J_X5_ofLeft) (k := kI) rfl (by decide) (Nat.le_of_ble_eq_true rfl) (v_X5_ofLeft G a1 a2 μ) ht rfl
set_option maxRecDepth 100000 in
set_option maxHeartbeats 4000000 in
theorem v_X5_ofRight (G : GG) (a1 : Int32) (a2 : Int32) (μ : Mem) : V G J_X5_ofRight 0 [(0, .ref (G.2.1 43)), (1, .int a1), (2, .int a2)] [] μ (f_X5_ofRight a1 a2 μ) kI := by
  rw [f_X5_ofRight]
  refine v_aload_n (n := 1) dX5_ofRight_0 rfl 0 rfl rfl ?_
  refine v_iload_n (n := 2) dX5_ofRight_1 rfl 1 rfl rfl ?_
  refine v_cVi (n := 5) (st := []) [.int a1] dX5_ofRight_2 (fun t ht => M_X5_isRight G a1 μ t ht) cal_X5_isRight mw201 (show isO 43 5 from rfl) rfl rfl (Nat.le_of_ble_eq_true rfl) ⟨Nat.le_of_ble_eq_true rfl, Nat.le_of_ble_eq_true rfl⟩ rfl (fun x2 μ1 => ?_)
  refine v_if_ne (tgt := 10) (n := 8) dX5_ofRight_5 (by decide) rfl ?_ ?_
  · refine v_iconst (n := 9) (v := -1) dX5_ofRight_8 ci_m1 rfl ?_
    exact v_iret dX5_ofRight_9 rfl rfl
  · refine v_iload_n (n := 11) dX5_ofRight_10 rfl 2 rfl rfl ?_
    refine v_iconst (n := 12) (v := 2) dX5_ofRight_11 ci_2 rfl ?_
    refine v_icmp_ne (tgt := 27) (n := 15) dX5_ofRight_12 (by decide) rfl ?_ ?_
    · refine v_aload_n (n := 16) dX5_ofRight_15 rfl 0 rfl rfl ?_
      refine v_cVi (n := 19) (st := []) [] dX5_ofRight_16 (fun t ht => M_X5_findBest G μ1 t ht) cal_X5_findBest mw199 (show isO 43 5 from rfl) rfl rfl (Nat.le_of_ble_eq_true rfl) ⟨Nat.le_of_ble_eq_true rfl, Nat.le_of_ble_eq_true rfl⟩ rfl (fun x4 μ3 => ?_)
      refine v_pop (n := 20) dX5_ofRight_19 rfl rfl ?_
      refine v_aload_n (n := 21) dX5_ofRight_20 rfl 0 rfl rfl ?_
      refine v_iconst (n := 22) (v := 1) dX5_ofRight_21 ci_1 rfl ?_
      refine v_iload_n (n := 23) dX5_ofRight_22 rfl 1 rfl rfl ?_
      refine v_cVi (n := 26) (st := []) [.int (1 : Int32), .int a1] dX5_ofRight_23 (fun t ht => M_X5_pairedWith G (1 : Int32) a1 μ3 t ht) cal_X5_pairedWith mw200 (show isO 43 5 from rfl) rfl rfl (Nat.le_of_ble_eq_true rfl) ⟨Nat.le_of_ble_eq_true rfl, Nat.le_of_ble_eq_true rfl⟩ rfl (fun x6 μ5 => ?_)
      exact v_iret dX5_ofRight_26 rfl rfl
    · refine v_iload_n (n := 28) dX5_ofRight_27 rfl 2 rfl rfl ?_
      refine v_if_ne (tgt := 40) (n := 31) dX5_ofRight_28 (by decide) rfl ?_ ?_
      · refine v_aload_n (n := 32) dX5_ofRight_31 rfl 0 rfl rfl ?_
        refine v_getR (n := 35) (i := 13) (q2 := 50) dX5_ofRight_32 (show isO 43 5 from rfl) rfl fg_X5_28 rfl ?_
        refine v_iload_n (n := 36) dX5_ofRight_35 rfl 1 rfl rfl ?_
        refine v_iald (n := 37) dX5_ofRight_36 (show isA 50 7 from rfl) rfl ?_
        refine v_goto (tgt := 56) dX5_ofRight_37 (by decide) ?_
        exact v_iret dX5_ofRight_56 rfl rfl
      · refine v_iload_n (n := 41) dX5_ofRight_40 rfl 2 rfl rfl ?_
        refine v_iconst (n := 42) (v := 1) dX5_ofRight_41 ci_1 rfl ?_
        refine v_icmp_ne (tgt := 54) (n := 45) dX5_ofRight_42 (by decide) rfl ?_ ?_
        · refine v_aload_n (n := 46) dX5_ofRight_45 rfl 0 rfl rfl ?_
          refine v_getR (n := 49) (i := 14) (q2 := 51) dX5_ofRight_46 (show isO 43 5 from rfl) rfl fg_X5_31 rfl ?_
          refine v_iload_n (n := 50) dX5_ofRight_49 rfl 1 rfl rfl ?_
          refine v_iald (n := 51) dX5_ofRight_50 (show isA 51 7 from rfl) rfl ?_
          refine v_goto (tgt := 56) dX5_ofRight_51 (by decide) ?_
          exact v_iret dX5_ofRight_56 rfl rfl
        · refine v_bipush (n := 56) (v := -2) dX5_ofRight_54 cb_m2 rfl ?_
          exact v_iret dX5_ofRight_56 rfl rfl
theorem M_X5_ofRight (G : GG) (a1 : Int32) (a2 : Int32) (μ : Mem) (t : Int32 × Mem) (ht : f_X5_ofRight a1 a2 μ = some t) : GM G J_X5_ofRight yX5_ofRight [.ref (G.2.1 43), .int a1, .int a2] μ (oI t) :=
  gm_of (J := J_X5_ofRight) (k := kI) rfl (by decide) (Nat.le_of_ble_eq_true rfl) (v_X5_ofRight G a1 a2 μ) ht rfl
set_option maxRecDepth 100000 in
set_option maxHeartbeats 4000000 in
theorem vjn_X5_letters_69 (G : GG) (x1v : Int32) (x2v : Int32) (x3v : Int32) (s0v : Int32) (μ : Mem) : V G J_X5_letters 69 [(0, .ref (G.2.1 43)), (1, .int x1v), (2, .int x2v), (3, .int x3v)] [.int s0v] μ (jn_X5_letters_69 x1v x2v x3v s0v μ) kI := by
  rw [jn_X5_letters_69]
  refine v_istore (n := 71) [(4, .int s0v), (0, .ref (G.2.1 43)), (1, .int x1v), (2, .int x2v), (3, .int x3v)] dX5_letters_69 (by decide) rfl rfl ?_
  refine v_iload_n (n := 72) dX5_letters_71 rfl 2 rfl rfl ?_
  refine v_if_ne (tgt := 85) (n := 75) dX5_letters_72 (by decide) rfl ?_ ?_
  · refine v_aload_n (n := 76) dX5_letters_75 rfl 1 rfl rfl ?_
    refine v_getR (n := 79) (i := 11) (q2 := 48) dX5_letters_76 (show isO 43 5 from rfl) rfl fg_X5_22 rfl ?_
    refine v_iload_n (n := 80) dX5_letters_79 rfl 3 rfl rfl ?_
    refine v_iload_n (n := 81) dX5_letters_80 rfl 4 rfl rfl ?_
    refine v_iast (n := 82) dX5_letters_81 (show isA 48 7 from rfl) rfl ?_
    refine v_lm (fun μ8 => ?_)
    refine v_goto (tgt := 92) dX5_letters_82 (by decide) ?_
    refine v_iload (n := 94) dX5_letters_92 0 rfl rfl ?_
    exact v_iret dX5_letters_94 rfl rfl
  · refine v_aload_n (n := 86) dX5_letters_85 rfl 1 rfl rfl ?_
    refine v_getR (n := 89) (i := 13) (q2 := 50) dX5_letters_86 (show isO 43 5 from rfl) rfl fg_X5_28 rfl ?_
    refine v_iload_n (n := 90) dX5_letters_89 rfl 3 rfl rfl ?_
    refine v_iload_n (n := 91) dX5_letters_90 rfl 4 rfl rfl ?_
    refine v_iast (n := 92) dX5_letters_91 (show isA 50 7 from rfl) rfl ?_
    refine v_lm (fun μ7 => ?_)
    refine v_iload (n := 94) dX5_letters_92 0 rfl rfl ?_
    exact v_iret dX5_letters_94 rfl rfl
set_option maxRecDepth 100000 in
set_option maxHeartbeats 4000000 in
theorem vjn_X5_letters_37 (G : GG) (x1v : Int32) (x2v : Int32) (x3v : Int32) (μ : Mem) : V G J_X5_letters 37 [(0, .ref (G.2.1 43)), (1, .int x1v), (2, .int x2v), (3, .int x3v)] [] μ (jn_X5_letters_37 x1v x2v x3v μ) kI := by
  rw [jn_X5_letters_37]
  refine v_iload_n (n := 38) dX5_letters_37 rfl 3 rfl rfl ?_
  refine v_iconst (n := 39) (v := 1) dX5_letters_38 ci_1 rfl ?_
  refine v_bipush (n := 41) (v := 9) dX5_letters_39 cb_9 rfl ?_
  refine v_cSi (n := 44) (st := []) [.int x3v, .int (1 : Int32), .int (9 : Int32)] dX5_letters_41 (fun t ht => M_X5_within G x3v (1 : Int32) (9 : Int32) μ t ht) cal_X5_within mw151 rfl rfl (Nat.le_of_ble_eq_true rfl) ⟨Nat.le_of_ble_eq_true rfl, Nat.le_of_ble_eq_true rfl⟩ rfl (fun x6 μ5 => ?_)
  refine v_if_ne (tgt := 50) (n := 47) dX5_letters_44 (by decide) rfl ?_ ?_
  · refine v_bipush (n := 49) (v := -2) dX5_letters_47 cb_m2 rfl ?_
    exact v_iret dX5_letters_49 rfl rfl
  · refine v_iload_n (n := 51) dX5_letters_50 rfl 1 rfl rfl ?_
    refine v_if_ne (tgt := 63) (n := 54) dX5_letters_51 (by decide) rfl ?_ ?_
    · refine v_aload_n (n := 55) dX5_letters_54 rfl 0 rfl rfl ?_
      refine v_getR (n := 58) (i := 11) (q2 := 48) dX5_letters_55 (show isO 43 5 from rfl) rfl fg_X5_22 rfl ?_
      refine v_iload_n (n := 59) dX5_letters_58 rfl 2 rfl rfl ?_
      refine v_iald (n := 60) dX5_letters_59 (show isA 48 7 from rfl) rfl ?_
      refine v_goto (tgt := 69) dX5_letters_60 (by decide) ?_
      exact vjn_X5_letters_69 G x1v x2v x3v (μ5 48 x2v.toNatClampNeg) μ5
    · refine v_aload_n (n := 64) dX5_letters_63 rfl 0 rfl rfl ?_
      refine v_getR (n := 67) (i := 13) (q2 := 50) dX5_letters_64 (show isO 43 5 from rfl) rfl fg_X5_28 rfl ?_
      refine v_iload_n (n := 68) dX5_letters_67 rfl 2 rfl rfl ?_
      refine v_iald (n := 69) dX5_letters_68 (show isA 50 7 from rfl) rfl ?_
      exact vjn_X5_letters_69 G x1v x2v x3v (μ5 50 x2v.toNatClampNeg) μ5
set_option maxRecDepth 100000 in
set_option maxHeartbeats 4000000 in
theorem v_X5_letters (G : GG) (a1 : Int32) (a2 : Int32) (a3 : Int32) (μ : Mem) : V G J_X5_letters 0 [(0, .ref (G.2.1 43)), (1, .int a1), (2, .int a2), (3, .int a3)] [] μ (f_X5_letters a1 a2 a3 μ) kI := by
  rw [f_X5_letters]
  refine v_iload_n (n := 1) dX5_letters_0 rfl 1 rfl rfl ?_
  refine v_iconst (n := 2) (v := 0) dX5_letters_1 ci_0 rfl ?_
  refine v_iconst (n := 3) (v := 1) dX5_letters_2 ci_1 rfl ?_
  refine v_cSi (n := 6) (st := []) [.int a1, .int (0 : Int32), .int (1 : Int32)] dX5_letters_3 (fun t ht => M_X5_within G a1 (0 : Int32) (1 : Int32) μ t ht) cal_X5_within mw151 rfl rfl (Nat.le_of_ble_eq_true rfl) ⟨Nat.le_of_ble_eq_true rfl, Nat.le_of_ble_eq_true rfl⟩ rfl (fun x2 μ1 => ?_)
  refine v_if_ne (tgt := 12) (n := 9) dX5_letters_6 (by decide) rfl ?_ ?_
  · refine v_bipush (n := 11) (v := -2) dX5_letters_9 cb_m2 rfl ?_
    exact v_iret dX5_letters_11 rfl rfl
  · refine v_iload_n (n := 13) dX5_letters_12 rfl 1 rfl rfl ?_
    refine v_if_ne (tgt := 27) (n := 16) dX5_letters_13 (by decide) rfl ?_ ?_
    · refine v_aload_n (n := 17) dX5_letters_16 rfl 0 rfl rfl ?_
      refine v_iload_n (n := 18) dX5_letters_17 rfl 2 rfl rfl ?_
      refine v_cVi (n := 21) (st := []) [.int a2] dX5_letters_18 (fun t ht => M_X5_isLeft G a2 μ1 t ht) cal_X5_isLeft mw198 (show isO 43 5 from rfl) rfl rfl (Nat.le_of_ble_eq_true rfl) ⟨Nat.le_of_ble_eq_true rfl, Nat.le_of_ble_eq_true rfl⟩ rfl (fun x10 μ9 => ?_)
      refine v_if_ne (tgt := 37) (n := 24) dX5_letters_21 (by decide) rfl ?_ ?_
      · refine v_goto (tgt := 35) dX5_letters_24 (by decide) ?_
        refine v_iconst (n := 36) (v := -1) dX5_letters_35 ci_m1 rfl ?_
        exact v_iret dX5_letters_36 rfl rfl
      · exact vjn_X5_letters_37 G a1 a2 a3 μ9
    · refine v_aload_n (n := 28) dX5_letters_27 rfl 0 rfl rfl ?_
      refine v_iload_n (n := 29) dX5_letters_28 rfl 2 rfl rfl ?_
      refine v_cVi (n := 32) (st := []) [.int a2] dX5_letters_29 (fun t ht => M_X5_isRight G a2 μ1 t ht) cal_X5_isRight mw201 (show isO 43 5 from rfl) rfl rfl (Nat.le_of_ble_eq_true rfl) ⟨Nat.le_of_ble_eq_true rfl, Nat.le_of_ble_eq_true rfl⟩ rfl (fun x4 μ3 => ?_)
      refine v_if_ne (tgt := 37) (n := 35) dX5_letters_32 (by decide) rfl ?_ ?_
      · refine v_iconst (n := 36) (v := -1) dX5_letters_35 ci_m1 rfl ?_
        exact v_iret dX5_letters_36 rfl rfl
      · exact vjn_X5_letters_37 G a1 a2 a3 μ3
theorem M_X5_letters (G : GG) (a1 : Int32) (a2 : Int32) (a3 : Int32) (μ : Mem) (t : Int32 × Mem) (ht : f_X5_letters a1 a2 a3 μ = some t) : GM G J_X5_letters yX5_letters [.ref (G.2.1 43), .int a1, .int a2, .int a3] μ (oI t) :=
  gm_of (J := J_X5_letters) (k := kI) rfl (by decide) (Nat.le_of_ble_eq_true rfl) (v_X5_letters G a1 a2 a3 μ) ht rfl
set_option maxRecDepth 100000 in
set_option maxHeartbeats 4000000 in
theorem vjn_X5_price_103 (G : GG) (x1v : Int32) (x2v : Int32) (x3v : Int32) (s0v : Int32) (μ : Mem) : V G J_X5_price 103 [(0, .ref (G.2.1 43)), (1, .int x1v), (2, .int x2v), (3, .int x3v)] [.int s0v, .ref (G.2.1 43)] μ (jn_X5_price_103 x1v x2v x3v s0v μ) kI := by
  rw [jn_X5_price_103]
  refine v_put (n := 106) (i := 8) dX5_price_103 (show isO 43 5 from rfl) rfl fp_X5_116 rfl rfl rfl ?_
  refine v_lm (fun μ6 => ?_)
  refine v_aload_n (n := 107) dX5_price_106 rfl 0 rfl rfl ?_
  refine v_iload_n (n := 108) dX5_price_107 rfl 1 rfl rfl ?_
  refine v_iconst (n := 109) (v := 2) dX5_price_108 ci_2 rfl ?_
  refine v_icmp_ne (tgt := 116) (n := 112) dX5_price_109 (by decide) rfl ?_ ?_
  · refine v_iload_n (n := 113) dX5_price_112 rfl 2 rfl rfl ?_
    refine v_goto (tgt := 120) dX5_price_113 (by decide) ?_
    refine v_put (n := 123) (i := 9) dX5_price_120 (show isO 43 5 from rfl) rfl fp_X5_119 rfl rfl rfl ?_
    refine v_lm (fun μ8 => ?_)
    refine v_iload_n (n := 124) dX5_price_123 rfl 3 rfl rfl ?_
    exact v_iret dX5_price_124 rfl rfl
  · refine v_aload_n (n := 117) dX5_price_116 rfl 0 rfl rfl ?_
    refine v_getI (n := 120) (i := 9) dX5_price_117 (show isO 43 5 from rfl) rfl fg_X5_119 rfl ?_
    refine v_put (n := 123) (i := 9) dX5_price_120 (show isO 43 5 from rfl) rfl fp_X5_119 rfl rfl rfl ?_
    refine v_lm (fun μ7 => ?_)
    refine v_iload_n (n := 124) dX5_price_123 rfl 3 rfl rfl ?_
    exact v_iret dX5_price_124 rfl rfl
set_option maxRecDepth 100000 in
set_option maxHeartbeats 4000000 in
theorem vjn_X5_price_86 (G : GG) (x1v : Int32) (x2v : Int32) (x3v : Int32) (s0v : Int32) (μ : Mem) : V G J_X5_price 86 [(0, .ref (G.2.1 43)), (1, .int x1v), (2, .int x2v), (3, .int x3v)] [.int s0v, .ref (G.2.1 43)] μ (jn_X5_price_86 x1v x2v x3v s0v μ) kI := by
  rw [jn_X5_price_86]
  refine v_put (n := 89) (i := 7) dX5_price_86 (show isO 43 5 from rfl) rfl fp_X5_113 rfl rfl rfl ?_
  refine v_lm (fun μ5 => ?_)
  refine v_aload_n (n := 90) dX5_price_89 rfl 0 rfl rfl ?_
  refine v_iload_n (n := 91) dX5_price_90 rfl 1 rfl rfl ?_
  refine v_iconst (n := 92) (v := 1) dX5_price_91 ci_1 rfl ?_
  refine v_icmp_ne (tgt := 99) (n := 95) dX5_price_92 (by decide) rfl ?_ ?_
  · refine v_iload_n (n := 96) dX5_price_95 rfl 2 rfl rfl ?_
    refine v_goto (tgt := 103) dX5_price_96 (by decide) ?_
    exact vjn_X5_price_103 G x1v x2v x3v x2v μ5
  · refine v_aload_n (n := 100) dX5_price_99 rfl 0 rfl rfl ?_
    refine v_getI (n := 103) (i := 8) dX5_price_100 (show isO 43 5 from rfl) rfl fg_X5_116 rfl ?_
    exact vjn_X5_price_103 G x1v x2v x3v (μ5 43 8) μ5
set_option maxRecDepth 100000 in
set_option maxHeartbeats 4000000 in
theorem vjn_X5_price_72 (G : GG) (x1v : Int32) (x2v : Int32) (s0v : Int32) (μ : Mem) : V G J_X5_price 72 [(0, .ref (G.2.1 43)), (1, .int x1v), (2, .int x2v)] [.int s0v] μ (jn_X5_price_72 x1v x2v s0v μ) kI := by
  rw [jn_X5_price_72]
  refine v_istore_n (n := 73) [(3, .int s0v), (0, .ref (G.2.1 43)), (1, .int x1v), (2, .int x2v)] dX5_price_72 rfl (by decide) rfl rfl ?_
  refine v_aload_n (n := 74) dX5_price_73 rfl 1 rfl rfl ?_
  refine v_iload_n (n := 75) dX5_price_74 rfl 2 rfl rfl ?_
  refine v_if_ne (tgt := 82) (n := 78) dX5_price_75 (by decide) rfl ?_ ?_
  · refine v_iload_n (n := 79) dX5_price_78 rfl 3 rfl rfl ?_
    refine v_goto (tgt := 86) dX5_price_79 (by decide) ?_
    exact v_sub [1, 2, 3, 0] rfl (vjn_X5_price_86 G x1v x2v s0v x2v μ)
  · refine v_aload_n (n := 83) dX5_price_82 rfl 1 rfl rfl ?_
    refine v_getI (n := 86) (i := 7) dX5_price_83 (show isO 43 5 from rfl) rfl fg_X5_113 rfl ?_
    exact v_sub [1, 2, 3, 0] rfl (vjn_X5_price_86 G x1v x2v s0v (μ 43 7) μ)
set_option maxRecDepth 100000 in
set_option maxHeartbeats 4000000 in
theorem vjn_X5_price_36 (G : GG) (x1v : Int32) (x2v : Int32) (s0v : Int32) (s1v : Int32) (s2v : Int32) (μ : Mem) : V G J_X5_price 36 [(0, .ref (G.2.1 43)), (1, .int x1v), (2, .int x2v)] [.int s0v, .int s1v, .int s2v] μ (jn_X5_price_36 x1v x2v s0v s1v s2v μ) kI := by
  rw [jn_X5_price_36]
  refine v_cSi (n := 39) (st := []) [.int s2v, .int s1v, .int s0v] dX5_price_36 (fun t ht => M_X5_within G s2v s1v s0v μ t ht) cal_X5_within mw151 rfl rfl (Nat.le_of_ble_eq_true rfl) ⟨Nat.le_of_ble_eq_true rfl, Nat.le_of_ble_eq_true rfl⟩ rfl (fun x4 μ3 => ?_)
  refine v_if_ne (tgt := 45) (n := 42) dX5_price_39 (by decide) rfl ?_ ?_
  · refine v_bipush (n := 44) (v := -2) dX5_price_42 cb_m2 rfl ?_
    exact v_iret dX5_price_44 rfl rfl
  · refine v_iload_n (n := 46) dX5_price_45 rfl 1 rfl rfl ?_
    refine v_if_ne (tgt := 56) (n := 49) dX5_price_46 (by decide) rfl ?_ ?_
    · refine v_aload_n (n := 50) dX5_price_49 rfl 0 rfl rfl ?_
      refine v_getI (n := 53) (i := 7) dX5_price_50 (show isO 43 5 from rfl) rfl fg_X5_113 rfl ?_
      refine v_goto (tgt := 72) dX5_price_53 (by decide) ?_
      exact vjn_X5_price_72 G x1v x2v (μ3 43 7) μ3
    · refine v_iload_n (n := 57) dX5_price_56 rfl 1 rfl rfl ?_
      refine v_iconst (n := 58) (v := 1) dX5_price_57 ci_1 rfl ?_
      refine v_icmp_ne (tgt := 68) (n := 61) dX5_price_58 (by decide) rfl ?_ ?_
      · refine v_aload_n (n := 62) dX5_price_61 rfl 0 rfl rfl ?_
        refine v_getI (n := 65) (i := 8) dX5_price_62 (show isO 43 5 from rfl) rfl fg_X5_116 rfl ?_
        refine v_goto (tgt := 72) dX5_price_65 (by decide) ?_
        exact vjn_X5_price_72 G x1v x2v (μ3 43 8) μ3
      · refine v_aload_n (n := 69) dX5_price_68 rfl 0 rfl rfl ?_
        refine v_getI (n := 72) (i := 9) dX5_price_69 (show isO 43 5 from rfl) rfl fg_X5_119 rfl ?_
        exact vjn_X5_price_72 G x1v x2v (μ3 43 9) μ3
set_option maxRecDepth 100000 in
set_option maxHeartbeats 4000000 in
theorem v_X5_price (G : GG) (a1 : Int32) (a2 : Int32) (μ : Mem) : V G J_X5_price 0 [(0, .ref (G.2.1 43)), (1, .int a1), (2, .int a2)] [] μ (f_X5_price a1 a2 μ) kI := by
  rw [f_X5_price]
  refine v_iload_n (n := 1) dX5_price_0 rfl 1 rfl rfl ?_
  refine v_iconst (n := 2) (v := 0) dX5_price_1 ci_0 rfl ?_
  refine v_iconst (n := 3) (v := 2) dX5_price_2 ci_2 rfl ?_
  refine v_cSi (n := 6) (st := []) [.int a1, .int (0 : Int32), .int (2 : Int32)] dX5_price_3 (fun t ht => M_X5_within G a1 (0 : Int32) (2 : Int32) μ t ht) cal_X5_within mw151 rfl rfl (Nat.le_of_ble_eq_true rfl) ⟨Nat.le_of_ble_eq_true rfl, Nat.le_of_ble_eq_true rfl⟩ rfl (fun x2 μ1 => ?_)
  refine v_if_ne (tgt := 12) (n := 9) dX5_price_6 (by decide) rfl ?_ ?_
  · refine v_bipush (n := 11) (v := -2) dX5_price_9 cb_m2 rfl ?_
    exact v_iret dX5_price_11 rfl rfl
  · refine v_aload_n (n := 13) dX5_price_12 rfl 0 rfl rfl ?_
    refine v_getI (n := 16) (i := 5) dX5_price_13 (show isO 43 5 from rfl) rfl fg_X5_80 rfl ?_
    refine v_if_ne (tgt := 22) (n := 19) dX5_price_16 (by decide) rfl ?_ ?_
    · refine v_bipush (n := 21) (v := -3) dX5_price_19 cb_m3 rfl ?_
      exact v_iret dX5_price_21 rfl rfl
    · refine v_iload_n (n := 23) dX5_price_22 rfl 2 rfl rfl ?_
      refine v_iconst (n := 24) (v := 0) dX5_price_23 ci_0 rfl ?_
      refine v_iload_n (n := 25) dX5_price_24 rfl 1 rfl rfl ?_
      refine v_iconst (n := 26) (v := 2) dX5_price_25 ci_2 rfl ?_
      refine v_icmp_ne (tgt := 34) (n := 29) dX5_price_26 (by decide) rfl ?_ ?_
      · refine v_bipush (n := 31) (v := 7) dX5_price_29 cb_7 rfl ?_
        refine v_goto (tgt := 36) dX5_price_31 (by decide) ?_
        exact vjn_X5_price_36 G a1 a2 (7 : Int32) (0 : Int32) a2 μ1
      · refine v_bipush (n := 36) (v := 9) dX5_price_34 cb_9 rfl ?_
        exact vjn_X5_price_36 G a1 a2 (9 : Int32) (0 : Int32) a2 μ1
theorem M_X5_price (G : GG) (a1 : Int32) (a2 : Int32) (μ : Mem) (t : Int32 × Mem) (ht : f_X5_price a1 a2 μ = some t) : GM G J_X5_price yX5_price [.ref (G.2.1 43), .int a1, .int a2] μ (oI t) :=
  gm_of (J := J_X5_price) (k := kI) rfl (by decide) (Nat.le_of_ble_eq_true rfl) (v_X5_price G a1 a2 μ) ht rfl
