set_option maxRecDepth 100000 in
set_option maxHeartbeats 4000000 in
theorem vlp_X0_fillOthers_14 (G : GG) (r0v : Nat) (hr0v : isO r0v 0) (x1v : Int32) (kk : (Mem) → Option Oc) (hx : ∀ (μ : Mem), V G J_X0_fillOthers 34 [(0, .ref (G.2.1 r0v)), (1, .int x1v)] [] μ (kk μ) some) : ∀ (n : Nat) (x2v : Int32) (μ : Mem), V G J_X0_fillOthers 14 [(0, .ref (G.2.1 r0v)), (1, .int x1v), (2, .int x2v)] [] μ (lp_X0_fillOthers_14 r0v x1v n x2v μ) kk := by
  intro n
  induction n with
  | zero => intro _ _; exact v_none
  | succ n ih =>
    intro x2v μ
    rw [lp_X0_fillOthers_14]
    refine v_iload_n (n := 15) dX0_fillOthers_14 rfl 2 rfl rfl ?_
    refine v_if_lt (tgt := 34) (n := 18) dX0_fillOthers_15 (by decide) rfl ?_ ?_
    · exact v_leaf (v_sub [0, 1] rfl (hx  μ))
    · refine v_aload_n (n := 19) dX0_fillOthers_18 rfl 0 rfl rfl ?_
      refine v_iload_n (n := 20) dX0_fillOthers_19 rfl 1 rfl rfl ?_
      refine v_bipush (n := 22) (v := 8) dX0_fillOthers_20 cb_8 rfl ?_
      refine v_imul (n := 23) dX0_fillOthers_22 rfl ?_
      refine v_iload_n (n := 24) dX0_fillOthers_23 rfl 2 rfl rfl ?_
      refine v_iadd (n := 25) dX0_fillOthers_24 rfl ?_
      refine v_cVv (n := 28) (st := []) [.int ((x1v * (8 : Int32)) + x2v)] dX0_fillOthers_25 (fun t ht => M_X0_fillOthersAt G r0v hr0v ((x1v * (8 : Int32)) + x2v) μ t ht) cal_X0_fillOthersAt mw75 hr0v rfl rfl (Nat.le_of_ble_eq_true rfl) ⟨Nat.le_of_ble_eq_true rfl, Nat.le_of_ble_eq_true rfl⟩ rfl (fun μ3 => ?_)
      refine v_iinc (n := 31) (w := -1) (fun x4 => [(2, .int x4), (0, .ref (G.2.1 r0v)), (1, .int x1v)]) dX0_fillOthers_28 2 rfl ci_m1 (by decide) (fun _ => rfl) rfl (fun x4 => ?_)
      refine v_goto (tgt := 14) dX0_fillOthers_31 (by decide) ?_
      exact v_sub [1, 2, 0] rfl (ih x4 μ3)
set_option maxRecDepth 100000 in
set_option maxHeartbeats 4000000 in
theorem vlp_X0_fillOthers_5 (G : GG) (r0v : Nat) (hr0v : isO r0v 0) (kk : (Mem) → Option Oc) (hx : ∀ (μ : Mem), V G J_X0_fillOthers 40 [] [] μ (kk μ) some) : ∀ (n : Nat) (x1v : Int32) (μ : Mem), V G J_X0_fillOthers 5 [(0, .ref (G.2.1 r0v)), (1, .int x1v)] [] μ (lp_X0_fillOthers_5 r0v n x1v μ) kk := by
  intro n
  induction n with
  | zero => intro _ _; exact v_none
  | succ n ih =>
    intro x1v μ
    rw [lp_X0_fillOthers_5]
    refine v_iload_n (n := 6) dX0_fillOthers_5 rfl 1 rfl rfl ?_
    refine v_if_lt (tgt := 40) (n := 9) dX0_fillOthers_6 (by decide) rfl ?_ ?_
    · exact v_leaf (v_sub [] rfl (hx  μ))
    · refine v_aload_n (n := 10) dX0_fillOthers_9 rfl 0 rfl rfl ?_
      refine v_getI (n := 13) (i := 9) dX0_fillOthers_10 hr0v rfl fg_X0_63 rfl ?_
      refine v_lt (fun x2 => ?_)
      refine v_istore_n (n := 14) [(2, .int x2), (0, .ref (G.2.1 r0v)), (1, .int x1v)] dX0_fillOthers_13 rfl (by decide) rfl rfl ?_
      refine v_sub [1, 2, 0] rfl ?_
      refine v_x1 (px := 34) (lx := (fun μ5 => [(0, .ref (G.2.1 r0v)), (1, .int x1v)])) (mx := (fun μ5 => μ5)) (fun kk hx => vlp_X0_fillOthers_14 G r0v hr0v x1v kk hx FU x2 μ) (fun μ5 => ?_)
      refine v_iinc (n := 37) (w := -1) (fun x6 => [(1, .int x6), (0, .ref (G.2.1 r0v))]) dX0_fillOthers_34 1 rfl ci_m1 (by decide) (fun _ => rfl) rfl (fun x6 => ?_)
      refine v_goto (tgt := 5) dX0_fillOthers_37 (by decide) ?_
      exact v_sub [1, 0] rfl (ih x6 μ5)
set_option maxRecDepth 100000 in
set_option maxHeartbeats 4000000 in
theorem v_X0_fillOthers (G : GG) (q0 : Nat) (hq0 : isO q0 0) (μ : Mem) : V G J_X0_fillOthers 0 [(0, .ref (G.2.1 q0))] [] μ (f_X0_fillOthers q0 μ) kV := by
  rw [f_X0_fillOthers]
  refine v_aload_n (n := 1) dX0_fillOthers_0 rfl 0 rfl rfl ?_
  refine v_getI (n := 4) (i := 8) dX0_fillOthers_1 hq0 rfl fg_X0_59 rfl ?_
  refine v_lt (fun x1 => ?_)
  refine v_istore_n (n := 5) [(1, .int x1), (0, .ref (G.2.1 q0))] dX0_fillOthers_4 rfl (by decide) rfl rfl ?_
  refine v_sub [1, 0] rfl ?_
  refine v_x1 (px := 40) (lx := (fun μ7 => [])) (mx := (fun μ7 => μ7)) (fun kk hx => vlp_X0_fillOthers_5 G q0 hq0 kk hx FU x1 μ) (fun μ7 => ?_)
  exact v_vret dX0_fillOthers_40 rfl rfl
theorem M_X0_fillOthers (G : GG) (q0 : Nat) (hq0 : isO q0 0) (μ : Mem) (t : Mem) (ht : f_X0_fillOthers q0 μ = some t) : GM G J_X0_fillOthers yX0_fillOthers [.ref (G.2.1 q0)] μ (oV t) :=
  gm_of (J := J_X0_fillOthers) (k := kV) rfl (by decide) (Nat.le_of_ble_eq_true rfl) (v_X0_fillOthers G q0 hq0 μ) ht rfl
set_option maxRecDepth 100000 in
set_option maxHeartbeats 4000000 in
theorem vlp_X0_walkBest_19 (G : GG) (r0v : Nat) (hr0v : isO r0v 0) (kk : (Mem) → Option Oc) (hx : ∀ (μ : Mem), V G J_X0_walkBest 100 [] [] μ (kk μ) some) : ∀ (n : Nat) (x1v : Int32) (μ : Mem), V G J_X0_walkBest 19 [(0, .ref (G.2.1 r0v)), (1, .int x1v)] [] μ (lp_X0_walkBest_19 r0v n x1v μ) kk := by
  intro n
  induction n with
  | zero => intro _ _; exact v_none
  | succ n ih =>
    intro x1v μ
    rw [lp_X0_walkBest_19]
    refine v_iload_n (n := 20) dX0_walkBest_19 rfl 1 rfl rfl ?_
    refine v_aload_n (n := 21) dX0_walkBest_20 rfl 0 rfl rfl ?_
    refine v_cVi (n := 24) (st := [.int x1v]) [] dX0_walkBest_21 (fun t ht => M_X0_end G r0v hr0v μ t ht) cal_X0_end mw64 hr0v rfl rfl (Nat.le_of_ble_eq_true rfl) ⟨Nat.le_of_ble_eq_true rfl, Nat.le_of_ble_eq_true rfl⟩ rfl (fun x3 μ2 => ?_)
    refine v_icmp_eq (tgt := 100) (n := 27) dX0_walkBest_24 (by decide) rfl ?_ ?_
    · exact v_leaf (v_sub [] rfl (hx  μ2))
    · refine v_aload_n (n := 28) dX0_walkBest_27 rfl 0 rfl rfl ?_
      refine v_getI (n := 31) (i := 10) dX0_walkBest_28 hr0v rfl fg_X0_103 rfl ?_
      refine v_bipush (n := 33) (v := 14) dX0_walkBest_31 cb_14 rfl ?_
      refine v_icmp_ge (tgt := 100) (n := 36) dX0_walkBest_33 (by decide) rfl ?_ ?_
      · exact v_leaf (v_sub [] rfl (hx  μ2))
      · refine v_aload_n (n := 37) dX0_walkBest_36 rfl 0 rfl rfl ?_
        refine v_getR (n := 40) (i := 4) (q2 := (r0v + 5)) dX0_walkBest_37 hr0v rfl fg_X0_24 rfl ?_
        refine v_iload_n (n := 41) dX0_walkBest_40 rfl 1 rfl rfl ?_
        refine v_iald (n := 42) dX0_walkBest_41 (ar0_4 hr0v) rfl ?_
        refine v_lt (fun x4 => ?_)
        refine v_istore_n (n := 43) [(2, .int x4), (0, .ref (G.2.1 r0v)), (1, .int x1v)] dX0_walkBest_42 rfl (by decide) rfl rfl ?_
        refine v_aload_n (n := 44) dX0_walkBest_43 rfl 1 rfl rfl ?_
        refine v_getR (n := 47) (i := 5) (q2 := (r0v + 6)) dX0_walkBest_44 hr0v rfl fg_X0_27 rfl ?_
        refine v_aload_n (n := 48) dX0_walkBest_47 rfl 1 rfl rfl ?_
        refine v_getI (n := 51) (i := 10) dX0_walkBest_48 hr0v rfl fg_X0_103 rfl ?_
        refine v_iload_n (n := 52) dX0_walkBest_51 rfl 0 rfl rfl ?_
        refine v_iast (n := 53) dX0_walkBest_52 (ar0_5 hr0v) rfl ?_
        refine v_lm (fun μ5 => ?_)
        refine v_aload_n (n := 54) dX0_walkBest_53 rfl 1 rfl rfl ?_
        refine v_getR (n := 57) (i := 6) (q2 := (r0v + 7)) dX0_walkBest_54 hr0v rfl fg_X0_30 rfl ?_
        refine v_aload_n (n := 58) dX0_walkBest_57 rfl 1 rfl rfl ?_
        refine v_getI (n := 61) (i := 10) dX0_walkBest_58 hr0v rfl fg_X0_103 rfl ?_
        refine v_iload_n (n := 62) dX0_walkBest_61 rfl 2 rfl rfl ?_
        refine v_bipush (n := 64) (v := 8) dX0_walkBest_62 cb_8 rfl ?_
        refine v_idiv (n := 65) dX0_walkBest_64 rfl ?_
        refine v_iast (n := 66) dX0_walkBest_65 (ar0_6 hr0v) rfl ?_
        refine v_lm (fun μ6 => ?_)
        refine v_aload_n (n := 67) dX0_walkBest_66 rfl 1 rfl rfl ?_
        refine v_getR (n := 70) (i := 7) (q2 := (r0v + 8)) dX0_walkBest_67 hr0v rfl fg_X0_33 rfl ?_
        refine v_aload_n (n := 71) dX0_walkBest_70 rfl 1 rfl rfl ?_
        refine v_getI (n := 74) (i := 10) dX0_walkBest_71 hr0v rfl fg_X0_103 rfl ?_
        refine v_iload_n (n := 75) dX0_walkBest_74 rfl 2 rfl rfl ?_
        refine v_bipush (n := 77) (v := 8) dX0_walkBest_75 cb_8 rfl ?_
        refine v_irem (n := 78) dX0_walkBest_77 rfl ?_
        refine v_iast (n := 79) dX0_walkBest_78 (ar0_7 hr0v) rfl ?_
        refine v_lm (fun μ7 => ?_)
        refine v_aload_n (n := 80) dX0_walkBest_79 rfl 1 rfl rfl ?_
        refine v_dup (n := 81) dX0_walkBest_80 rfl rfl ?_
        refine v_getI (n := 84) (i := 10) dX0_walkBest_81 hr0v rfl fg_X0_103 rfl ?_
        refine v_iconst (n := 85) (v := 1) dX0_walkBest_84 ci_1 rfl ?_
        refine v_iadd (n := 86) dX0_walkBest_85 rfl ?_
        refine v_put (n := 89) (i := 10) dX0_walkBest_86 hr0v rfl fp_X0_103 rfl rfl rfl ?_
        refine v_lm (fun μ8 => ?_)
        refine v_iload_n (n := 90) dX0_walkBest_89 rfl 2 rfl rfl ?_
        refine v_gets (n := 93) 2 dX0_walkBest_90 (by decide) (by decide) rfl ?_
        refine v_iload_n (n := 94) dX0_walkBest_93 rfl 0 rfl rfl ?_
        refine v_sald (n := 95) dX0_walkBest_94 (by decide) rfl ?_
        refine v_iadd (n := 96) dX0_walkBest_95 rfl ?_
        refine v_lt (fun x9 => ?_)
        refine v_istore_n (n := 97) [(1, .int x9), (2, .int x4), (0, .ref (G.2.1 r0v))] dX0_walkBest_96 rfl (by decide) rfl rfl ?_
        refine v_goto (tgt := 19) dX0_walkBest_97 (by decide) ?_
        exact v_sub [2, 0] rfl (ih x9 μ8)
set_option maxRecDepth 100000 in
set_option maxHeartbeats 4000000 in
theorem v_X0_walkBest (G : GG) (q0 : Nat) (hq0 : isO q0 0) (μ : Mem) : V G J_X0_walkBest 0 [(0, .ref (G.2.1 q0))] [] μ (f_X0_walkBest q0 μ) kV := by
  rw [f_X0_walkBest]
  refine v_aload_n (n := 1) dX0_walkBest_0 rfl 0 rfl rfl ?_
  refine v_iconst (n := 2) (v := 0) dX0_walkBest_1 ci_0 rfl ?_
  refine v_put (n := 5) (i := 10) dX0_walkBest_2 hq0 rfl fp_X0_103 rfl rfl rfl ?_
  refine v_lm (fun μ1 => ?_)
  refine v_aload_n (n := 6) dX0_walkBest_5 rfl 0 rfl rfl ?_
  refine v_getR (n := 9) (i := 1) (q2 := (q0 + 2)) dX0_walkBest_6 hq0 rfl fg_X0_15 rfl ?_
  refine v_iconst (n := 10) (v := 0) dX0_walkBest_9 ci_0 rfl ?_
  refine v_iald (n := 11) dX0_walkBest_10 (ar0_1 hq0) rfl ?_
  refine v_ldc (n := 13) (v := 1000000) dX0_walkBest_11 mw61 rfl ?_
  refine v_icmp_lt (tgt := 17) (n := 16) dX0_walkBest_13 (by decide) rfl ?_ ?_
  · refine v_iconst (n := 18) (v := 0) dX0_walkBest_17 ci_0 rfl ?_
    refine v_istore_n (n := 19) [(1, .int (0 : Int32)), (0, .ref (G.2.1 q0))] dX0_walkBest_18 rfl (by decide) rfl rfl ?_
    refine v_sub [1, 0] rfl ?_
    refine v_x1 (px := 100) (lx := (fun μ10 => [])) (mx := (fun μ10 => μ10)) (fun kk hx => vlp_X0_walkBest_19 G q0 hq0 kk hx FU (0 : Int32) μ1) (fun μ10 => ?_)
    exact v_vret dX0_walkBest_100 rfl rfl
  · exact v_vret dX0_walkBest_16 rfl rfl
theorem M_X0_walkBest (G : GG) (q0 : Nat) (hq0 : isO q0 0) (μ : Mem) (t : Mem) (ht : f_X0_walkBest q0 μ = some t) : GM G J_X0_walkBest yX0_walkBest [.ref (G.2.1 q0)] μ (oV t) :=
  gm_of (J := J_X0_walkBest) (k := kV) rfl (by decide) (Nat.le_of_ble_eq_true rfl) (v_X0_walkBest G q0 hq0 μ) ht rfl
set_option maxRecDepth 100000 in
set_option maxHeartbeats 4000000 in
theorem v_X0_align (G : GG) (q0 : Nat) (hq0 : isO q0 0) (q1 : Nat) (hq1 : isO q1 1) (μ : Mem) : V G J_X0_align 0 [(0, .ref (G.2.1 q0)), (1, .ref (G.2.1 q1))] [] μ (f_X0_align q0 q1 μ) kV := by
  rw [f_X0_align]
  refine v_aload_n (n := 1) dX0_align_0 rfl 0 rfl rfl ?_
  refine v_aload_n (n := 2) dX0_align_1 rfl 1 rfl rfl ?_
  refine v_cVv (n := 5) (st := []) [.ref (G.2.1 q1)] dX0_align_2 (fun t ht => M_X0_take G q0 hq0 q1 hq1 μ t ht) cal_X0_take mw80 hq0 rfl rfl (Nat.le_of_ble_eq_true rfl) ⟨Nat.le_of_ble_eq_true rfl, Nat.le_of_ble_eq_true rfl⟩ rfl (fun μ1 => ?_)
  refine v_aload_n (n := 6) dX0_align_5 rfl 0 rfl rfl ?_
  refine v_aload_n (n := 7) dX0_align_6 rfl 1 rfl rfl ?_
  refine v_getI (n := 10) (i := 9) dX0_align_7 hq1 rfl fg_X0_40 rfl ?_
  refine v_cVi (n := 13) (st := []) [.int (μ1 q1 9)] dX0_align_10 (fun t ht => M_X0_leastBy G q0 hq0 (μ1 q1 9) μ1 t ht) cal_X0_leastBy mw82 hq0 rfl rfl (Nat.le_of_ble_eq_true rfl) ⟨Nat.le_of_ble_eq_true rfl, Nat.le_of_ble_eq_true rfl⟩ rfl (fun x3 μ2 => ?_)
  refine v_pop (n := 14) dX0_align_13 rfl rfl ?_
  refine v_aload_n (n := 15) dX0_align_14 rfl 0 rfl rfl ?_
  refine v_cVv (n := 18) (st := []) [] dX0_align_15 (fun t ht => M_X0_fillOthers G q0 hq0 μ2 t ht) cal_X0_fillOthers mw83 hq0 rfl rfl (Nat.le_of_ble_eq_true rfl) ⟨Nat.le_of_ble_eq_true rfl, Nat.le_of_ble_eq_true rfl⟩ rfl (fun μ4 => ?_)
  refine v_aload_n (n := 19) dX0_align_18 rfl 0 rfl rfl ?_
  refine v_cVv (n := 22) (st := []) [] dX0_align_19 (fun t ht => M_X0_walkBest G q0 hq0 μ4 t ht) cal_X0_walkBest mw84 hq0 rfl rfl (Nat.le_of_ble_eq_true rfl) ⟨Nat.le_of_ble_eq_true rfl, Nat.le_of_ble_eq_true rfl⟩ rfl (fun μ5 => ?_)
  exact v_vret dX0_align_22 rfl rfl
theorem M_X0_align (G : GG) (q0 : Nat) (hq0 : isO q0 0) (q1 : Nat) (hq1 : isO q1 1) (μ : Mem) (t : Mem) (ht : f_X0_align q0 q1 μ = some t) : GM G J_X0_align yX0_align [.ref (G.2.1 q0), .ref (G.2.1 q1)] μ (oV t) :=
  gm_of (J := J_X0_align) (k := kV) rfl (by decide) (Nat.le_of_ble_eq_true rfl) (v_X0_align G q0 hq0 q1 hq1 μ) ht rfl
set_option maxRecDepth 100000 in
set_option maxHeartbeats 4000000 in
theorem v_X4_alignmentOfNow (G : GG) (μ : Mem) : V G J_X4_alignmentOfNow 0 [(0, .ref (G.2.1 0))] [] μ (f_X4_alignmentOfNow μ) (kA G) := by
  rw [f_X4_alignmentOfNow]
  refine v_aload_n (n := 1) dX4_alignmentOfNow_0 rfl 0 rfl rfl ?_
  refine v_getI (n := 4) (i := 9) dX4_alignmentOfNow_1 (show isO 0 4 from rfl) rfl fg_X4_85 rfl ?_
  refine v_if_ne (tgt := 23) (n := 7) dX4_alignmentOfNow_4 (by decide) rfl ?_ ?_
  · refine v_aload_n (n := 8) dX4_alignmentOfNow_7 rfl 0 rfl rfl ?_
    refine v_getR (n := 11) (i := 3) (q2 := 14) dX4_alignmentOfNow_8 (show isO 0 4 from rfl) rfl fg_X4_30 rfl ?_
    refine v_aload_n (n := 12) dX4_alignmentOfNow_11 rfl 0 rfl rfl ?_
    refine v_getR (n := 15) (i := 1) (q2 := 2) dX4_alignmentOfNow_12 (show isO 0 4 from rfl) rfl fg_X4_20 rfl ?_
    refine v_cVv (n := 18) (st := []) [.ref (G.2.1 2)] dX4_alignmentOfNow_15 (fun t ht => M_X0_align G 14 (show isO 14 0 from rfl) 2 (show isO 2 1 from rfl) μ t ht) cal_X0_align mw86 (show isO 14 0 from rfl) rfl rfl (Nat.le_of_ble_eq_true rfl) ⟨Nat.le_of_ble_eq_true rfl, Nat.le_of_ble_eq_true rfl⟩ rfl (fun μ1 => ?_)
    refine v_aload_n (n := 19) dX4_alignmentOfNow_18 rfl 0 rfl rfl ?_
    refine v_iconst (n := 20) (v := 1) dX4_alignmentOfNow_19 ci_1 rfl ?_
    refine v_put (n := 23) (i := 9) dX4_alignmentOfNow_20 (show isO 0 4 from rfl) rfl fp_X4_85 (by decide) (by decide) rfl ?_
    refine v_lm (fun μ2 => ?_)
    refine v_aload_n (n := 24) dX4_alignmentOfNow_23 rfl 0 rfl rfl ?_
    refine v_getR (n := 27) (i := 3) (q2 := 14) dX4_alignmentOfNow_24 (show isO 0 4 from rfl) rfl fg_X4_30 rfl ?_
    exact v_aret dX4_alignmentOfNow_27 rfl rfl
  · refine v_aload_n (n := 24) dX4_alignmentOfNow_23 rfl 0 rfl rfl ?_
    refine v_getR (n := 27) (i := 3) (q2 := 14) dX4_alignmentOfNow_24 (show isO 0 4 from rfl) rfl fg_X4_30 rfl ?_
    exact v_aret dX4_alignmentOfNow_27 rfl rfl
theorem M_X4_alignmentOfNow (G : GG) (μ : Mem) (t : Mem) (ht : f_X4_alignmentOfNow μ = some t) : GM G J_X4_alignmentOfNow yX4_alignmentOfNow [.ref (G.2.1 0)] μ ((oA G) t) :=
  gm_of (J := J_X4_alignmentOfNow) (k := (kA G)) rfl (by decide) (Nat.le_of_ble_eq_true rfl) (v_X4_alignmentOfNow G μ) ht rfl
set_option maxRecDepth 100000 in
set_option maxHeartbeats 4000000 in
theorem v_X0_isIn (G : GG) (a0 : Int32) (a1 : Int32) (a2 : Int32) (μ : Mem) : V G J_X0_isIn 0 [(0, .int a0), (1, .int a1), (2, .int a2)] [] μ (f_X0_isIn a0 a1 a2 μ) kI := by
  rw [f_X0_isIn]
  refine v_iload_n (n := 1) dX0_isIn_0 rfl 0 rfl rfl ?_
  refine v_iload_n (n := 2) dX0_isIn_1 rfl 1 rfl rfl ?_
  refine v_icmp_lt (tgt := 16) (n := 5) dX0_isIn_2 (by decide) rfl ?_ ?_
  · refine v_iconst (n := 17) (v := 0) dX0_isIn_16 ci_0 rfl ?_
    exact v_zret dX0_isIn_17 rfl (by decide) rfl
  · refine v_iload_n (n := 6) dX0_isIn_5 rfl 0 rfl rfl ?_
    refine v_iload_n (n := 7) dX0_isIn_6 rfl 1 rfl rfl ?_
    refine v_iload_n (n := 8) dX0_isIn_7 rfl 2 rfl rfl ?_
    refine v_iadd (n := 9) dX0_isIn_8 rfl ?_
    refine v_icmp_ge (tgt := 16) (n := 12) dX0_isIn_9 (by decide) rfl ?_ ?_
    · refine v_iconst (n := 17) (v := 0) dX0_isIn_16 ci_0 rfl ?_
      exact v_zret dX0_isIn_17 rfl (by decide) rfl
    · refine v_iconst (n := 13) (v := 1) dX0_isIn_12 ci_1 rfl ?_
      refine v_goto (tgt := 17) dX0_isIn_13 (by decide) ?_
      exact v_zret dX0_isIn_17 rfl (by decide) rfl
theorem M_X0_isIn (G : GG) (a0 : Int32) (a1 : Int32) (a2 : Int32) (μ : Mem) (t : Int32 × Mem) (ht : f_X0_isIn a0 a1 a2 μ = some t) : GM G J_X0_isIn yX0_isIn [.int a0, .int a1, .int a2] μ (oI t) :=
  gm_of (J := J_X0_isIn) (k := kI) rfl (by decide) (Nat.le_of_ble_eq_true rfl) (v_X0_isIn G a0 a1 a2 μ) ht rfl
set_option maxRecDepth 100000 in
set_option maxHeartbeats 4000000 in
theorem v_X0_setOf (G : GG) (a0 : Int32) (a1 : Int32) (μ : Mem) : V G J_X0_setOf 0 [(0, .int a0), (1, .int a1)] [] μ (f_X0_setOf a0 a1 μ) kI := by
  rw [f_X0_setOf]
  refine v_iconst (n := 1) (v := 1) dX0_setOf_0 ci_1 rfl ?_
  refine v_iload_n (n := 2) dX0_setOf_1 rfl 1 rfl rfl ?_
  refine v_ishl (n := 3) dX0_setOf_2 rfl ?_
  refine v_iconst (n := 4) (v := 1) dX0_setOf_3 ci_1 rfl ?_
  refine v_isub (n := 5) dX0_setOf_4 rfl ?_
  refine v_iload_n (n := 6) dX0_setOf_5 rfl 0 rfl rfl ?_
  refine v_ishl (n := 7) dX0_setOf_6 rfl ?_
  exact v_iret dX0_setOf_7 rfl rfl
theorem M_X0_setOf (G : GG) (a0 : Int32) (a1 : Int32) (μ : Mem) (t : Int32 × Mem) (ht : f_X0_setOf a0 a1 μ = some t) : GM G J_X0_setOf yX0_setOf [.int a0, .int a1] μ (oI t) :=
  gm_of (J := J_X0_setOf) (k := kI) rfl (by decide) (Nat.le_of_ble_eq_true rfl) (v_X0_setOf G a0 a1 μ) ht rfl
set_option maxRecDepth 100000 in
set_option maxHeartbeats 4000000 in
theorem vlp_X0_rightsWith_4 (G : GG) (r0v : Nat) (hr0v : isO r0v 0) (x1v : Int32) (kk : (Int32 × Mem) → Option Oc) (hx : ∀ (x2v : Int32) (μ : Mem), V G J_X0_rightsWith 63 [(2, .int x2v)] [] μ (kk (x2v, μ)) some) : ∀ (n : Nat) (x2v : Int32) (x3v : Int32) (μ : Mem), V G J_X0_rightsWith 4 [(0, .ref (G.2.1 r0v)), (1, .int x1v), (2, .int x2v), (3, .int x3v)] [] μ (lp_X0_rightsWith_4 r0v x1v n x2v x3v μ) kk := by
  intro n
  induction n with
  | zero => intro _ _ _; exact v_none
  | succ n ih =>
    intro x2v x3v μ
    rw [lp_X0_rightsWith_4]
    refine v_iload_n (n := 5) dX0_rightsWith_4 rfl 3 rfl rfl ?_
    refine v_aload_n (n := 6) dX0_rightsWith_5 rfl 0 rfl rfl ?_
    refine v_getI (n := 9) (i := 10) dX0_rightsWith_6 hr0v rfl fg_X0_103 rfl ?_
    refine v_icmp_ge (tgt := 63) (n := 12) dX0_rightsWith_9 (by decide) rfl ?_ ?_
    · exact v_leaf (v_sub [2] rfl (hx x2v μ))
    · refine v_iload_n (n := 13) dX0_rightsWith_12 rfl 1 rfl rfl ?_
      refine v_aload_n (n := 14) dX0_rightsWith_13 rfl 0 rfl rfl ?_
      refine v_getR (n := 17) (i := 6) (q2 := (r0v + 7)) dX0_rightsWith_14 hr0v rfl fg_X0_30 rfl ?_
      refine v_iload_n (n := 18) dX0_rightsWith_17 rfl 3 rfl rfl ?_
      refine v_iald (n := 19) dX0_rightsWith_18 (ar0_6 hr0v) rfl ?_
      refine v_gets (n := 22) 0 dX0_rightsWith_19 (by decide) (by decide) rfl ?_
      refine v_aload_n (n := 23) dX0_rightsWith_22 rfl 0 rfl rfl ?_
      refine v_getR (n := 26) (i := 5) (q2 := (r0v + 6)) dX0_rightsWith_23 hr0v rfl fg_X0_27 rfl ?_
      refine v_iload_n (n := 27) dX0_rightsWith_26 rfl 3 rfl rfl ?_
      refine v_iald (n := 28) dX0_rightsWith_27 (ar0_5 hr0v) rfl ?_
      refine v_sald (n := 29) dX0_rightsWith_28 (by decide) rfl ?_
      refine v_cSi (n := 32) (st := []) [.int x1v, .int (μ (r0v + 7) x3v.toNatClampNeg), .int (stv 0 (μ (r0v + 6) x3v.toNatClampNeg).toNatClampNeg)] dX0_rightsWith_29 (fun t ht => M_X0_isIn G x1v (μ (r0v + 7) x3v.toNatClampNeg) (stv 0 (μ (r0v + 6) x3v.toNatClampNeg).toNatClampNeg) μ t ht) cal_X0_isIn mw87 rfl rfl (Nat.le_of_ble_eq_true rfl) ⟨Nat.le_of_ble_eq_true rfl, Nat.le_of_ble_eq_true rfl⟩ rfl (fun x2 μ1 => ?_)
      refine v_if_eq (tgt := 57) (n := 35) dX0_rightsWith_32 (by decide) rfl ?_ ?_
      · refine v_iinc (n := 60) (w := 1) (fun x3 => [(3, .int x3), (0, .ref (G.2.1 r0v)), (1, .int x1v), (2, .int x2v)]) dX0_rightsWith_57 3 rfl ci_1 (by decide) (fun _ => rfl) rfl (fun x3 => ?_)
        refine v_goto (tgt := 4) dX0_rightsWith_60 (by decide) ?_
        exact v_sub [1, 2, 3, 0] rfl (ih x2v x3 μ1)
      · refine v_iload_n (n := 36) dX0_rightsWith_35 rfl 2 rfl rfl ?_
        refine v_aload_n (n := 37) dX0_rightsWith_36 rfl 0 rfl rfl ?_
        refine v_getR (n := 40) (i := 7) (q2 := (r0v + 8)) dX0_rightsWith_37 hr0v rfl fg_X0_33 rfl ?_
        refine v_iload_n (n := 41) dX0_rightsWith_40 rfl 3 rfl rfl ?_
        refine v_iald (n := 42) dX0_rightsWith_41 (ar0_7 hr0v) rfl ?_
        refine v_gets (n := 45) 1 dX0_rightsWith_42 (by decide) (by decide) rfl ?_
        refine v_aload_n (n := 46) dX0_rightsWith_45 rfl 0 rfl rfl ?_
        refine v_getR (n := 49) (i := 5) (q2 := (r0v + 6)) dX0_rightsWith_46 hr0v rfl fg_X0_27 rfl ?_
        refine v_iload_n (n := 50) dX0_rightsWith_49 rfl 3 rfl rfl ?_
        refine v_iald (n := 51) dX0_rightsWith_50 (ar0_5 hr0v) rfl ?_
        refine v_sald (n := 52) dX0_rightsWith_51 (by decide) rfl ?_
        refine v_cSi (n := 55) (st := [.int x2v]) [.int (μ1 (r0v + 8) x3v.toNatClampNeg), .int (stv 1 (μ1 (r0v + 6) x3v.toNatClampNeg).toNatClampNeg)] dX0_rightsWith_52 (fun t ht => M_X0_setOf G (μ1 (r0v + 8) x3v.toNatClampNeg) (stv 1 (μ1 (r0v + 6) x3v.toNatClampNeg).toNatClampNeg) μ1 t ht) cal_X0_setOf mw88 rfl rfl (Nat.le_of_ble_eq_true rfl) ⟨Nat.le_of_ble_eq_true rfl, Nat.le_of_ble_eq_true rfl⟩ rfl (fun x5 μ4 => ?_)
        refine v_ior (n := 56) dX0_rightsWith_55 rfl ?_
        refine v_lt (fun x6 => ?_)
        refine v_istore_n (n := 57) [(2, .int x6), (0, .ref (G.2.1 r0v)), (1, .int x1v), (3, .int x3v)] dX0_rightsWith_56 rfl (by decide) rfl rfl ?_
        refine v_iinc (n := 60) (w := 1) (fun x7 => [(3, .int x7), (2, .int x6), (0, .ref (G.2.1 r0v)), (1, .int x1v)]) dX0_rightsWith_57 3 rfl ci_1 (by decide) (fun _ => rfl) rfl (fun x7 => ?_)
        refine v_goto (tgt := 4) dX0_rightsWith_60 (by decide) ?_
        exact v_sub [2, 3, 1, 0] rfl (ih x6 x7 μ4)
set_option maxRecDepth 100000 in
set_option maxHeartbeats 4000000 in
theorem v_X0_rightsWith (G : GG) (q0 : Nat) (hq0 : isO q0 0) (a1 : Int32) (μ : Mem) : V G J_X0_rightsWith 0 [(0, .ref (G.2.1 q0)), (1, .int a1)] [] μ (f_X0_rightsWith q0 a1 μ) kI := by
  rw [f_X0_rightsWith]
  refine v_iconst (n := 1) (v := 0) dX0_rightsWith_0 ci_0 rfl ?_
  refine v_istore_n (n := 2) [(2, .int (0 : Int32)), (0, .ref (G.2.1 q0)), (1, .int a1)] dX0_rightsWith_1 rfl (by decide) rfl rfl ?_
  refine v_iconst (n := 3) (v := 0) dX0_rightsWith_2 ci_0 rfl ?_
  refine v_istore_n (n := 4) [(3, .int (0 : Int32)), (2, .int (0 : Int32)), (0, .ref (G.2.1 q0)), (1, .int a1)] dX0_rightsWith_3 rfl (by decide) rfl rfl ?_
  refine v_sub [2, 3, 1, 0] rfl ?_
  refine v_x2 (px := 63) (lx := (fun x8 μ9 => [(2, .int x8)])) (mx := (fun x8 μ9 => μ9)) (fun kk hx => vlp_X0_rightsWith_4 G q0 hq0 a1 kk hx FU (0 : Int32) (0 : Int32) μ) (fun x8 μ9 => ?_)
  refine v_iload_n (n := 64) dX0_rightsWith_63 rfl 0 rfl rfl ?_
  exact v_iret dX0_rightsWith_64 rfl rfl
theorem M_X0_rightsWith (G : GG) (q0 : Nat) (hq0 : isO q0 0) (a1 : Int32) (μ : Mem) (t : Int32 × Mem) (ht : f_X0_rightsWith q0 a1 μ = some t) : GM G J_X0_rightsWith yX0_rightsWith [.ref (G.2.1 q0), .int a1] μ (oI t) :=
  gm_of (J := J_X0_rightsWith) (k := kI) rfl (by decide) (Nat.le_of_ble_eq_true rfl) (v_X0_rightsWith G q0 hq0 a1 μ) ht rfl
set_option maxRecDepth 100000 in
set_option maxHeartbeats 4000000 in
theorem v_X4_ofLeft (G : GG) (a1 : Int32) (a2 : Int32) (μ : Mem) : V G J_X4_ofLeft 0 [(0, .ref (G.2.1 0)), (1, .int a1), (2, .int a2)] [] μ (f_X4_ofLeft a1 a2 μ) kI := by
  rw [f_X4_ofLeft]
  refine v_aload_n (n := 1) dX4_ofLeft_0 rfl 0 rfl rfl ?_
  refine v_getR (n := 4) (i := 1) (q2 := 2) dX4_ofLeft_1 (show isO 0 4 from rfl) rfl fg_X4_20 rfl ?_
  refine v_iload_n (n := 5) dX4_ofLeft_4 rfl 1 rfl rfl ?_
  refine v_cVi (n := 8) (st := []) [.int a1] dX4_ofLeft_5 (fun t ht => M_X1_hasLeft G 2 (show isO 2 1 from rfl) a1 μ t ht) cal_X1_hasLeft mw89 (show isO 2 1 from rfl) rfl rfl (Nat.le_of_ble_eq_true rfl) ⟨Nat.le_of_ble_eq_true rfl, Nat.le_of_ble_eq_true rfl⟩ rfl (fun x2 μ1 => ?_)
  refine v_if_ne (tgt := 13) (n := 11) dX4_ofLeft_8 (by decide) rfl ?_ ?_
  · refine v_iconst (n := 12) (v := -1) dX4_ofLeft_11 ci_m1 rfl ?_
    exact v_iret dX4_ofLeft_12 rfl rfl
  · refine v_iload_n (n := 14) dX4_ofLeft_13 rfl 2 rfl rfl ?_
    refine v_swif ?_ (fun hs0 => ?_)
    · refine v_tblI (tgt := 48) dX4_ofLeft_14 (by decide) (by decide) rfl (by decide) ?_
      refine v_aload_n (n := 49) dX4_ofLeft_48 rfl 0 rfl rfl ?_
      refine v_getR (n := 52) (i := 1) (q2 := 2) dX4_ofLeft_49 (show isO 0 4 from rfl) rfl fg_X4_20 rfl ?_
      refine v_getR (n := 55) (i := 0) (q2 := 3) dX4_ofLeft_52 (show isO 2 1 from rfl) rfl fg_X4_98 rfl ?_
      refine v_iload_n (n := 56) dX4_ofLeft_55 rfl 1 rfl rfl ?_
      refine v_iald (n := 57) dX4_ofLeft_56 (show isA 3 7 from rfl) rfl ?_
      exact v_iret dX4_ofLeft_57 rfl rfl
    refine v_swif ?_ (fun hs1 => ?_)
    · refine v_tblI (tgt := 58) dX4_ofLeft_14 (by decide) (by decide) rfl (by decide) ?_
      refine v_aload_n (n := 59) dX4_ofLeft_58 rfl 0 rfl rfl ?_
      refine v_getR (n := 62) (i := 1) (q2 := 2) dX4_ofLeft_59 (show isO 0 4 from rfl) rfl fg_X4_20 rfl ?_
      refine v_getR (n := 65) (i := 1) (q2 := 4) dX4_ofLeft_62 (show isO 2 1 from rfl) rfl fg_X4_101 rfl ?_
      refine v_iload_n (n := 66) dX4_ofLeft_65 rfl 1 rfl rfl ?_
      refine v_iald (n := 67) dX4_ofLeft_66 (show isA 4 7 from rfl) rfl ?_
      exact v_iret dX4_ofLeft_67 rfl rfl
    refine v_swif ?_ (fun hs2 => ?_)
    · refine v_tblI (tgt := 68) dX4_ofLeft_14 (by decide) (by decide) rfl (by decide) ?_
      refine v_aload_n (n := 69) dX4_ofLeft_68 rfl 0 rfl rfl ?_
      refine v_getR (n := 72) (i := 1) (q2 := 2) dX4_ofLeft_69 (show isO 0 4 from rfl) rfl fg_X4_20 rfl ?_
      refine v_iload_n (n := 73) dX4_ofLeft_72 rfl 1 rfl rfl ?_
      refine v_cVi (n := 76) (st := []) [.int a1] dX4_ofLeft_73 (fun t ht => M_X1_leftLength G 2 (show isO 2 1 from rfl) a1 μ1 t ht) cal_X1_leftLength mw92 (show isO 2 1 from rfl) rfl rfl (Nat.le_of_ble_eq_true rfl) ⟨Nat.le_of_ble_eq_true rfl, Nat.le_of_ble_eq_true rfl⟩ rfl (fun x4 μ3 => ?_)
      exact v_iret dX4_ofLeft_76 rfl rfl
    refine v_swif ?_ (fun hs3 => ?_)
    · refine v_tblI (tgt := 77) dX4_ofLeft_14 (by decide) (by decide) rfl (by decide) ?_
      refine v_aload_n (n := 78) dX4_ofLeft_77 rfl 0 rfl rfl ?_
      refine v_getR (n := 81) (i := 1) (q2 := 2) dX4_ofLeft_78 (show isO 0 4 from rfl) rfl fg_X4_20 rfl ?_
      refine v_getR (n := 84) (i := 2) (q2 := 5) dX4_ofLeft_81 (show isO 2 1 from rfl) rfl fg_X4_107 rfl ?_
      refine v_iload_n (n := 85) dX4_ofLeft_84 rfl 1 rfl rfl ?_
      refine v_iald (n := 86) dX4_ofLeft_85 (show isA 5 7 from rfl) rfl ?_
      exact v_iret dX4_ofLeft_86 rfl rfl
    refine v_swif ?_ (fun hs4 => ?_)
    · refine v_tblI (tgt := 87) dX4_ofLeft_14 (by decide) (by decide) rfl (by decide) ?_
      refine v_aload_n (n := 88) dX4_ofLeft_87 rfl 0 rfl rfl ?_
      refine v_cVa (n := 91) (st := []) [] dX4_ofLeft_88 (fun t ht => M_X4_alignmentOfNow G μ1 t ht) cal_X4_alignmentOfNow mw94 (show isO 0 4 from rfl) rfl rfl (Nat.le_of_ble_eq_true rfl) ⟨Nat.le_of_ble_eq_true rfl, Nat.le_of_ble_eq_true rfl⟩ rfl (fun μ5 => ?_)
      refine v_iload_n (n := 92) dX4_ofLeft_91 rfl 1 rfl rfl ?_
      refine v_cVi (n := 95) (st := []) [.int a1] dX4_ofLeft_92 (fun t ht => M_X0_rightsWith G 14 (show isO 14 0 from rfl) a1 μ5 t ht) cal_X0_rightsWith mw95 (show isO 14 0 from rfl) rfl rfl (Nat.le_of_ble_eq_true rfl) ⟨Nat.le_of_ble_eq_true rfl, Nat.le_of_ble_eq_true rfl⟩ rfl (fun x7 μ6 => ?_)
      exact v_iret dX4_ofLeft_95 rfl rfl
    refine v_tblO (tgt := 96) dX4_ofLeft_14 (by have hs0 := lv_neT hs0 (by decide : (0 : Int32).toInt = 0); have hs1 := lv_neT hs1 (by decide : (1 : Int32).toInt = 1); have hs2 := lv_neT hs2 (by decide : (2 : Int32).toInt = 2); have hs3 := lv_neT hs3 (by decide : (3 : Int32).toInt = 3); have hs4 := lv_neT hs4 (by decide : (4 : Int32).toInt = 4); omega) (by decide) ?_
    refine v_bipush (n := 98) (v := -2) dX4_ofLeft_96 cb_m2 rfl ?_
    exact v_iret dX4_ofLeft_98 rfl rfl
theorem M_X4_ofLeft (G : GG) (a1 : Int32) (a2 : Int32) (μ : Mem) (t : Int32 × Mem) (ht : f_X4_ofLeft a1 a2 μ = some t) : GM G J_X4_ofLeft yX4_ofLeft [.ref (G.2.1 0), .int a1, .int a2] μ (oI t) :=
  gm_of (J := J_X4_ofLeft) (k := kI) rfl (by decide) (Nat.le_of_ble_eq_true rfl) (v_X4_ofLeft G a1 a2 μ) ht rfl
set_option maxRecDepth 100000 in
set_option maxHeartbeats 4000000 in
theorem vlp_X0_leftsWith_4 (G : GG) (r0v : Nat) (hr0v : isO r0v 0) (x1v : Int32) (kk : (Int32 × Mem) → Option Oc) (hx : ∀ (x2v : Int32) (μ : Mem), V G J_X0_leftsWith 63 [(2, .int x2v)] [] μ (kk (x2v, μ)) some) : ∀ (n : Nat) (x2v : Int32) (x3v : Int32) (μ : Mem), V G J_X0_leftsWith 4 [(0, .ref (G.2.1 r0v)), (1, .int x1v), (2, .int x2v), (3, .int x3v)] [] μ (lp_X0_leftsWith_4 r0v x1v n x2v x3v μ) kk := by
  intro n
  induction n with
  | zero => intro _ _ _; exact v_none
  | succ n ih =>
    intro x2v x3v μ
    rw [lp_X0_leftsWith_4]
    refine v_iload_n (n := 5) dX0_leftsWith_4 rfl 3 rfl rfl ?_
    refine v_aload_n (n := 6) dX0_leftsWith_5 rfl 0 rfl rfl ?_
    refine v_getI (n := 9) (i := 10) dX0_leftsWith_6 hr0v rfl fg_X0_103 rfl ?_
    refine v_icmp_ge (tgt := 63) (n := 12) dX0_leftsWith_9 (by decide) rfl ?_ ?_
    · exact v_leaf (v_sub [2] rfl (hx x2v μ))
    · refine v_iload_n (n := 13) dX0_leftsWith_12 rfl 1 rfl rfl ?_
      refine v_aload_n (n := 14) dX0_leftsWith_13 rfl 0 rfl rfl ?_
      refine v_getR (n := 17) (i := 7) (q2 := (r0v + 8)) dX0_leftsWith_14 hr0v rfl fg_X0_33 rfl ?_
      refine v_iload_n (n := 18) dX0_leftsWith_17 rfl 3 rfl rfl ?_
      refine v_iald (n := 19) dX0_leftsWith_18 (ar0_7 hr0v) rfl ?_
      refine v_gets (n := 22) 1 dX0_leftsWith_19 (by decide) (by decide) rfl ?_
      refine v_aload_n (n := 23) dX0_leftsWith_22 rfl 0 rfl rfl ?_
      refine v_getR (n := 26) (i := 5) (q2 := (r0v + 6)) dX0_leftsWith_23 hr0v rfl fg_X0_27 rfl ?_
      refine v_iload_n (n := 27) dX0_leftsWith_26 rfl 3 rfl rfl ?_
      refine v_iald (n := 28) dX0_leftsWith_27 (ar0_5 hr0v) rfl ?_
      refine v_sald (n := 29) dX0_leftsWith_28 (by decide) rfl ?_
      refine v_cSi (n := 32) (st := []) [.int x1v, .int (μ (r0v + 8) x3v.toNatClampNeg), .int (stv 1 (μ (r0v + 6) x3v.toNatClampNeg).toNatClampNeg)] dX0_leftsWith_29 (fun t ht => M_X0_isIn G x1v (μ (r0v + 8) x3v.toNatClampNeg) (stv 1 (μ (r0v + 6) x3v.toNatClampNeg).toNatClampNeg) μ t ht) cal_X0_isIn mw87 rfl rfl (Nat.le_of_ble_eq_true rfl) ⟨Nat.le_of_ble_eq_true rfl, Nat.le_of_ble_eq_true rfl⟩ rfl (fun x2 μ1 => ?_)
      refine v_if_eq (tgt := 57) (n := 35) dX0_leftsWith_32 (by decide) rfl ?_ ?_
      · refine v_iinc (n := 60) (w := 1) (fun x3 => [(3, .int x3), (0, .ref (G.2.1 r0v)), (1, .int x1v), (2, .int x2v)]) dX0_leftsWith_57 3 rfl ci_1 (by decide) (fun _ => rfl) rfl (fun x3 => ?_)
        refine v_goto (tgt := 4) dX0_leftsWith_60 (by decide) ?_
        exact v_sub [1, 2, 3, 0] rfl (ih x2v x3 μ1)
      · refine v_iload_n (n := 36) dX0_leftsWith_35 rfl 2 rfl rfl ?_
        refine v_aload_n (n := 37) dX0_leftsWith_36 rfl 0 rfl rfl ?_
        refine v_getR (n := 40) (i := 6) (q2 := (r0v + 7)) dX0_leftsWith_37 hr0v rfl fg_X0_30 rfl ?_
        refine v_iload_n (n := 41) dX0_leftsWith_40 rfl 3 rfl rfl ?_
        refine v_iald (n := 42) dX0_leftsWith_41 (ar0_6 hr0v) rfl ?_
        refine v_gets (n := 45) 0 dX0_leftsWith_42 (by decide) (by decide) rfl ?_
        refine v_aload_n (n := 46) dX0_leftsWith_45 rfl 0 rfl rfl ?_
        refine v_getR (n := 49) (i := 5) (q2 := (r0v + 6)) dX0_leftsWith_46 hr0v rfl fg_X0_27 rfl ?_
        refine v_iload_n (n := 50) dX0_leftsWith_49 rfl 3 rfl rfl ?_
        refine v_iald (n := 51) dX0_leftsWith_50 (ar0_5 hr0v) rfl ?_
        refine v_sald (n := 52) dX0_leftsWith_51 (by decide) rfl ?_
        refine v_cSi (n := 55) (st := [.int x2v]) [.int (μ1 (r0v + 7) x3v.toNatClampNeg), .int (stv 0 (μ1 (r0v + 6) x3v.toNatClampNeg).toNatClampNeg)] dX0_leftsWith_52 (fun t ht => M_X0_setOf G (μ1 (r0v + 7) x3v.toNatClampNeg) (stv 0 (μ1 (r0v + 6) x3v.toNatClampNeg).toNatClampNeg) μ1 t ht) cal_X0_setOf mw88 rfl rfl (Nat.le_of_ble_eq_true rfl) ⟨Nat.le_of_ble_eq_true rfl, Nat.le_of_ble_eq_true rfl⟩ rfl (fun x5 μ4 => ?_)
        refine v_ior (n := 56) dX0_leftsWith_55 rfl ?_
        refine v_lt (fun x6 => ?_)
        refine v_istore_n (n := 57) [(2, .int x6), (0, .ref (G.2.1 r0v)), (1, .int x1v), (3, .int x3v)] dX0_leftsWith_56 rfl (by decide) rfl rfl ?_
        refine v_iinc (n := 60) (w := 1) (fun x7 => [(3, .int x7), (2, .int x6), (0, .ref (G.2.1 r0v)), (1, .int x1v)]) dX0_leftsWith_57 3 rfl ci_1 (by decide) (fun _ => rfl) rfl (fun x7 => ?_)
        refine v_goto (tgt := 4) dX0_leftsWith_60 (by decide) ?_
        exact v_sub [2, 3, 1, 0] rfl (ih x6 x7 μ4)
set_option maxRecDepth 100000 in
set_option maxHeartbeats 4000000 in
theorem v_X0_leftsWith (G : GG) (q0 : Nat) (hq0 : isO q0 0) (a1 : Int32) (μ : Mem) : V G J_X0_leftsWith 0 [(0, .ref (G.2.1 q0)), (1, .int a1)] [] μ (f_X0_leftsWith q0 a1 μ) kI := by
  rw [f_X0_leftsWith]
  refine v_iconst (n := 1) (v := 0) dX0_leftsWith_0 ci_0 rfl ?_
  refine v_istore_n (n := 2) [(2, .int (0 : Int32)), (0, .ref (G.2.1 q0)), (1, .int a1)] dX0_leftsWith_1 rfl (by decide) rfl rfl ?_
  refine v_iconst (n := 3) (v := 0) dX0_leftsWith_2 ci_0 rfl ?_
  refine v_istore_n (n := 4) [(3, .int (0 : Int32)), (2, .int (0 : Int32)), (0, .ref (G.2.1 q0)), (1, .int a1)] dX0_leftsWith_3 rfl (by decide) rfl rfl ?_
  refine v_sub [2, 3, 1, 0] rfl ?_
  refine v_x2 (px := 63) (lx := (fun x8 μ9 => [(2, .int x8)])) (mx := (fun x8 μ9 => μ9)) (fun kk hx => vlp_X0_leftsWith_4 G q0 hq0 a1 kk hx FU (0 : Int32) (0 : Int32) μ) (fun x8 μ9 => ?_)
  refine v_iload_n (n := 64) dX0_leftsWith_63 rfl 0 rfl rfl ?_
  exact v_iret dX0_leftsWith_64 rfl rfl
theorem M_X0_leftsWith (G : GG) (q0 : Nat) (hq0 : isO q0 0) (a1 : Int32) (μ : Mem) (t : Int32 × Mem) (ht : f_X0_leftsWith q0 a1 μ = some t) : GM G J_X0_leftsWith yX0_leftsWith [.ref (G.2.1 q0), .int a1] μ (oI t) :=
  gm_of (J := J_X0_leftsWith) (k := kI) rfl (by decide) (Nat.le_of_ble_eq_true rfl) (v_X0_leftsWith G q0 hq0 a1 μ) ht rfl
set_option maxRecDepth 100000 in
set_option maxHeartbeats 4000000 in
theorem v_X4_ofRight (G : GG) (a1 : Int32) (a2 : Int32) (μ : Mem) : V G J_X4_ofRight 0 [(0, .ref (G.2.1 0)), (1, .int a1), (2, .int a2)] [] μ (f_X4_ofRight a1 a2 μ) kI := by
  rw [f_X4_ofRight]
  refine v_aload_n (n := 1) dX4_ofRight_0 rfl 0 rfl rfl ?_
  refine v_getR (n := 4) (i := 1) (q2 := 2) dX4_ofRight_1 (show isO 0 4 from rfl) rfl fg_X4_20 rfl ?_
  refine v_iload_n (n := 5) dX4_ofRight_4 rfl 1 rfl rfl ?_
  refine v_cVi (n := 8) (st := []) [.int a1] dX4_ofRight_5 (fun t ht => M_X1_hasRight G 2 (show isO 2 1 from rfl) a1 μ t ht) cal_X1_hasRight mw96 (show isO 2 1 from rfl) rfl rfl (Nat.le_of_ble_eq_true rfl) ⟨Nat.le_of_ble_eq_true rfl, Nat.le_of_ble_eq_true rfl⟩ rfl (fun x2 μ1 => ?_)
  refine v_if_ne (tgt := 13) (n := 11) dX4_ofRight_8 (by decide) rfl ?_ ?_
  · refine v_iconst (n := 12) (v := -1) dX4_ofRight_11 ci_m1 rfl ?_
    exact v_iret dX4_ofRight_12 rfl rfl
  · refine v_iload_n (n := 14) dX4_ofRight_13 rfl 2 rfl rfl ?_
    refine v_swif ?_ (fun hs0 => ?_)
    · refine v_tblI (tgt := 40) dX4_ofRight_14 (by decide) (by decide) rfl (by decide) ?_
      refine v_aload_n (n := 41) dX4_ofRight_40 rfl 0 rfl rfl ?_
      refine v_getR (n := 44) (i := 1) (q2 := 2) dX4_ofRight_41 (show isO 0 4 from rfl) rfl fg_X4_20 rfl ?_
      refine v_getR (n := 47) (i := 3) (q2 := 6) dX4_ofRight_44 (show isO 2 1 from rfl) rfl fg_X4_120 rfl ?_
      refine v_iload_n (n := 48) dX4_ofRight_47 rfl 1 rfl rfl ?_
      refine v_iald (n := 49) dX4_ofRight_48 (show isA 6 7 from rfl) rfl ?_
      exact v_iret dX4_ofRight_49 rfl rfl
    refine v_swif ?_ (fun hs1 => ?_)
    · refine v_tblI (tgt := 50) dX4_ofRight_14 (by decide) (by decide) rfl (by decide) ?_
      refine v_aload_n (n := 51) dX4_ofRight_50 rfl 0 rfl rfl ?_
      refine v_getR (n := 54) (i := 1) (q2 := 2) dX4_ofRight_51 (show isO 0 4 from rfl) rfl fg_X4_20 rfl ?_
      refine v_getR (n := 57) (i := 4) (q2 := 7) dX4_ofRight_54 (show isO 2 1 from rfl) rfl fg_X4_123 rfl ?_
      refine v_iload_n (n := 58) dX4_ofRight_57 rfl 1 rfl rfl ?_
      refine v_iald (n := 59) dX4_ofRight_58 (show isA 7 7 from rfl) rfl ?_
      exact v_iret dX4_ofRight_59 rfl rfl
    refine v_swif ?_ (fun hs2 => ?_)
    · refine v_tblI (tgt := 60) dX4_ofRight_14 (by decide) (by decide) rfl (by decide) ?_
      refine v_aload_n (n := 61) dX4_ofRight_60 rfl 0 rfl rfl ?_
      refine v_cVa (n := 64) (st := []) [] dX4_ofRight_61 (fun t ht => M_X4_alignmentOfNow G μ1 t ht) cal_X4_alignmentOfNow mw94 (show isO 0 4 from rfl) rfl rfl (Nat.le_of_ble_eq_true rfl) ⟨Nat.le_of_ble_eq_true rfl, Nat.le_of_ble_eq_true rfl⟩ rfl (fun μ3 => ?_)
      refine v_iload_n (n := 65) dX4_ofRight_64 rfl 1 rfl rfl ?_
      refine v_cVi (n := 68) (st := []) [.int a1] dX4_ofRight_65 (fun t ht => M_X0_leftsWith G 14 (show isO 14 0 from rfl) a1 μ3 t ht) cal_X0_leftsWith mw99 (show isO 14 0 from rfl) rfl rfl (Nat.le_of_ble_eq_true rfl) ⟨Nat.le_of_ble_eq_true rfl, Nat.le_of_ble_eq_true rfl⟩ rfl (fun x5 μ4 => ?_)
      exact v_iret dX4_ofRight_68 rfl rfl
    refine v_tblO (tgt := 69) dX4_ofRight_14 (by have hs0 := lv_neT hs0 (by decide : (0 : Int32).toInt = 0); have hs1 := lv_neT hs1 (by decide : (1 : Int32).toInt = 1); have hs2 := lv_neT hs2 (by decide : (2 : Int32).toInt = 2); omega) (by decide) ?_
    refine v_bipush (n := 71) (v := -2) dX4_ofRight_69 cb_m2 rfl ?_
    exact v_iret dX4_ofRight_71 rfl rfl
theorem M_X4_ofRight (G : GG) (a1 : Int32) (a2 : Int32) (μ : Mem) (t : Int32 × Mem) (ht : f_X4_ofRight a1 a2 μ = some t) : GM G J_X4_ofRight yX4_ofRight [.ref (G.2.1 0), .int a1, .int a2] μ (oI t) :=
  gm_of (J := J_X4_ofRight) (k := kI) rfl (by decide) (Nat.le_of_ble_eq_true rfl) (v_X4_ofRight G a1 a2 μ) ht rfl
set_option maxRecDepth 100000 in
set_option maxHeartbeats 4000000 in
theorem v_X4_isLetters (G : GG) (a0 : Int32) (μ : Mem) : V G J_X4_isLetters 0 [(0, .int a0)] [] μ (f_X4_isLetters a0 μ) kI := by
  rw [f_X4_isLetters]
  refine v_iload_n (n := 1) dX4_isLetters_0 rfl 0 rfl rfl ?_
  refine v_iconst (n := 2) (v := 1) dX4_isLetters_1 ci_1 rfl ?_
  refine v_icmp_lt (tgt := 15) (n := 5) dX4_isLetters_2 (by decide) rfl ?_ ?_
  · refine v_iconst (n := 16) (v := 0) dX4_isLetters_15 ci_0 rfl ?_
    exact v_zret dX4_isLetters_16 rfl (by decide) rfl
  · refine v_iload_n (n := 6) dX4_isLetters_5 rfl 0 rfl rfl ?_
    refine v_bipush (n := 8) (v := 9) dX4_isLetters_6 cb_9 rfl ?_
    refine v_icmp_gt (tgt := 15) (n := 11) dX4_isLetters_8 (by decide) rfl ?_ ?_
    · refine v_iconst (n := 16) (v := 0) dX4_isLetters_15 ci_0 rfl ?_
      exact v_zret dX4_isLetters_16 rfl (by decide) rfl
    · refine v_iconst (n := 12) (v := 1) dX4_isLetters_11 ci_1 rfl ?_
      refine v_goto (tgt := 16) dX4_isLetters_12 (by decide) ?_
      exact v_zret dX4_isLetters_16 rfl (by decide) rfl
theorem M_X4_isLetters (G : GG) (a0 : Int32) (μ : Mem) (t : Int32 × Mem) (ht : f_X4_isLetters a0 μ = some t) : GM G J_X4_isLetters yX4_isLetters [.int a0] μ (oI t) :=
  gm_of (J := J_X4_isLetters) (k := kI) rfl (by decide) (Nat.le_of_ble_eq_true rfl) (v_X4_isLetters G a0 μ) ht rfl
set_option maxRecDepth 100000 in
set_option maxHeartbeats 4000000 in
theorem vjn_X4_letters_43 (G : GG) (x1v : Int32) (x2v : Int32) (x3v : Int32) (μ : Mem) : V G J_X4_letters 43 [(0, .ref (G.2.1 0)), (1, .int x1v), (2, .int x2v), (3, .int x3v)] [] μ (jn_X4_letters_43 x1v x2v x3v μ) kI := by
  rw [jn_X4_letters_43]
  refine v_iload_n (n := 44) dX4_letters_43 rfl 3 rfl rfl ?_
  refine v_cSi (n := 47) (st := []) [.int x3v] dX4_letters_44 (fun t ht => M_X4_isLetters G x3v μ t ht) cal_X4_isLetters mw100 rfl rfl (Nat.le_of_ble_eq_true rfl) ⟨Nat.le_of_ble_eq_true rfl, Nat.le_of_ble_eq_true rfl⟩ rfl (fun x4 μ3 => ?_)
  refine v_if_ne (tgt := 53) (n := 50) dX4_letters_47 (by decide) rfl ?_ ?_
  · refine v_bipush (n := 52) (v := -2) dX4_letters_50 cb_m2 rfl ?_
    exact v_iret dX4_letters_52 rfl rfl
  · refine v_iload_n (n := 54) dX4_letters_53 rfl 1 rfl rfl ?_
    refine v_if_ne (tgt := 67) (n := 57) dX4_letters_54 (by decide) rfl ?_ ?_
    · refine v_aload_n (n := 58) dX4_letters_57 rfl 0 rfl rfl ?_
      refine v_getR (n := 61) (i := 1) (q2 := 2) dX4_letters_58 (show isO 0 4 from rfl) rfl fg_X4_20 rfl ?_
      refine v_getR (n := 64) (i := 1) (q2 := 4) dX4_letters_61 (show isO 2 1 from rfl) rfl fg_X4_101 rfl ?_
      refine v_goto (tgt := 74) dX4_letters_64 (by decide) ?_
      refine v_astore (n := 76) [(4, .ref (G.2.1 4)), (0, .ref (G.2.1 0)), (1, .int x1v), (2, .int x2v), (3, .int x3v)] dX4_letters_74 (by decide) rfl rfl ?_
      refine v_aload (n := 78) dX4_letters_76 0 rfl rfl ?_
      refine v_iload_n (n := 79) dX4_letters_78 rfl 3 rfl rfl ?_
      refine v_iald (n := 80) dX4_letters_79 (show isA 4 7 from rfl) rfl ?_
      refine v_lt (fun x8 => ?_)
      refine v_istore (n := 82) [(5, .int x8), (4, .ref (G.2.1 4)), (0, .ref (G.2.1 0)), (1, .int x1v), (2, .int x2v), (3, .int x3v)] dX4_letters_80 (by decide) rfl rfl ?_
      refine v_aload (n := 84) dX4_letters_82 1 rfl rfl ?_
      refine v_iload_n (n := 85) dX4_letters_84 rfl 4 rfl rfl ?_
      refine v_iload_n (n := 86) dX4_letters_85 rfl 5 rfl rfl ?_
      refine v_iast (n := 87) dX4_letters_86 (show isA 4 7 from rfl) rfl ?_
      refine v_lm (fun μ9 => ?_)
      refine v_aload_n (n := 88) dX4_letters_87 rfl 2 rfl rfl ?_
      refine v_iconst (n := 89) (v := 0) dX4_letters_88 ci_0 rfl ?_
      refine v_put (n := 92) (i := 9) dX4_letters_89 (show isO 0 4 from rfl) rfl fp_X4_85 (by decide) (by decide) rfl ?_
      refine v_lm (fun μ10 => ?_)
      refine v_iload (n := 94) dX4_letters_92 0 rfl rfl ?_
      exact v_iret dX4_letters_94 rfl rfl
    · refine v_aload_n (n := 68) dX4_letters_67 rfl 0 rfl rfl ?_
      refine v_getR (n := 71) (i := 1) (q2 := 2) dX4_letters_68 (show isO 0 4 from rfl) rfl fg_X4_20 rfl ?_
      refine v_getR (n := 74) (i := 3) (q2 := 6) dX4_letters_71 (show isO 2 1 from rfl) rfl fg_X4_120 rfl ?_
      refine v_astore (n := 76) [(4, .ref (G.2.1 6)), (0, .ref (G.2.1 0)), (1, .int x1v), (2, .int x2v), (3, .int x3v)] dX4_letters_74 (by decide) rfl rfl ?_
      refine v_aload (n := 78) dX4_letters_76 0 rfl rfl ?_
      refine v_iload_n (n := 79) dX4_letters_78 rfl 3 rfl rfl ?_
      refine v_iald (n := 80) dX4_letters_79 (show isA 6 7 from rfl) rfl ?_
      refine v_lt (fun x5 => ?_)
      refine v_istore (n := 82) [(5, .int x5), (4, .ref (G.2.1 6)), (0, .ref (G.2.1 0)), (1, .int x1v), (2, .int x2v), (3, .int x3v)] dX4_letters_80 (by decide) rfl rfl ?_
      refine v_aload (n := 84) dX4_letters_82 1 rfl rfl ?_
      refine v_iload_n (n := 85) dX4_letters_84 rfl 4 rfl rfl ?_
      refine v_iload_n (n := 86) dX4_letters_85 rfl 5 rfl rfl ?_
      refine v_iast (n := 87) dX4_letters_86 (show isA 6 7 from rfl) rfl ?_
      refine v_lm (fun μ6 => ?_)
      refine v_aload_n (n := 88) dX4_letters_87 rfl 2 rfl rfl ?_
      refine v_iconst (n := 89) (v := 0) dX4_letters_88 ci_0 rfl ?_
      refine v_put (n := 92) (i := 9) dX4_letters_89 (show isO 0 4 from rfl) rfl fp_X4_85 (by decide) (by decide) rfl ?_
      refine v_lm (fun μ7 => ?_)
      refine v_iload (n := 94) dX4_letters_92 0 rfl rfl ?_
      exact v_iret dX4_letters_94 rfl rfl
set_option maxRecDepth 100000 in
set_option maxHeartbeats 4000000 in
theorem vjn_X4_letters_12 (G : GG) (x1v : Int32) (x2v : Int32) (x3v : Int32) (μ : Mem) : V G J_X4_letters 12 [(0, .ref (G.2.1 0)), (1, .int x1v), (2, .int x2v), (3, .int x3v)] [] μ (jn_X4_letters_12 x1v x2v x3v μ) kI := by
  rw [jn_X4_letters_12]
  refine v_iload_n (n := 13) dX4_letters_12 rfl 1 rfl rfl ?_
  refine v_if_ne (tgt := 30) (n := 16) dX4_letters_13 (by decide) rfl ?_ ?_
  · refine v_aload_n (n := 17) dX4_letters_16 rfl 0 rfl rfl ?_
    refine v_getR (n := 20) (i := 1) (q2 := 2) dX4_letters_17 (show isO 0 4 from rfl) rfl fg_X4_20 rfl ?_
    refine v_iload_n (n := 21) dX4_letters_20 rfl 2 rfl rfl ?_
    refine v_cVi (n := 24) (st := []) [.int x2v] dX4_letters_21 (fun t ht => M_X1_hasLeft G 2 (show isO 2 1 from rfl) x2v μ t ht) cal_X1_hasLeft mw89 (show isO 2 1 from rfl) rfl rfl (Nat.le_of_ble_eq_true rfl) ⟨Nat.le_of_ble_eq_true rfl, Nat.le_of_ble_eq_true rfl⟩ rfl (fun x12 μ11 => ?_)
    refine v_if_ne (tgt := 43) (n := 27) dX4_letters_24 (by decide) rfl ?_ ?_
    · refine v_goto (tgt := 41) dX4_letters_27 (by decide) ?_
      refine v_iconst (n := 42) (v := -1) dX4_letters_41 ci_m1 rfl ?_
      exact v_iret dX4_letters_42 rfl rfl
    · exact vjn_X4_letters_43 G x1v x2v x3v μ11
  · refine v_aload_n (n := 31) dX4_letters_30 rfl 0 rfl rfl ?_
    refine v_getR (n := 34) (i := 1) (q2 := 2) dX4_letters_31 (show isO 0 4 from rfl) rfl fg_X4_20 rfl ?_
    refine v_iload_n (n := 35) dX4_letters_34 rfl 2 rfl rfl ?_
    refine v_cVi (n := 38) (st := []) [.int x2v] dX4_letters_35 (fun t ht => M_X1_hasRight G 2 (show isO 2 1 from rfl) x2v μ t ht) cal_X1_hasRight mw96 (show isO 2 1 from rfl) rfl rfl (Nat.le_of_ble_eq_true rfl) ⟨Nat.le_of_ble_eq_true rfl, Nat.le_of_ble_eq_true rfl⟩ rfl (fun x2 μ1 => ?_)
    refine v_if_ne (tgt := 43) (n := 41) dX4_letters_38 (by decide) rfl ?_ ?_
    · refine v_iconst (n := 42) (v := -1) dX4_letters_41 ci_m1 rfl ?_
      exact v_iret dX4_letters_42 rfl rfl
    · exact vjn_X4_letters_43 G x1v x2v x3v μ1
set_option maxRecDepth 100000 in
set_option maxHeartbeats 4000000 in
theorem v_X4_letters (G : GG) (a1 : Int32) (a2 : Int32) (a3 : Int32) (μ : Mem) : V G J_X4_letters 0 [(0, .ref (G.2.1 0)), (1, .int a1), (2, .int a2), (3, .int a3)] [] μ (f_X4_letters a1 a2 a3 μ) kI := by
  rw [f_X4_letters]
  refine v_iload_n (n := 1) dX4_letters_0 rfl 1 rfl rfl ?_
  refine v_if_eq (tgt := 12) (n := 4) dX4_letters_1 (by decide) rfl ?_ ?_
  · exact vjn_X4_letters_12 G a1 a2 a3 μ
  · refine v_iload_n (n := 5) dX4_letters_4 rfl 1 rfl rfl ?_
    refine v_iconst (n := 6) (v := 1) dX4_letters_5 ci_1 rfl ?_
    refine v_icmp_eq (tgt := 12) (n := 9) dX4_letters_6 (by decide) rfl ?_ ?_
    · exact vjn_X4_letters_12 G a1 a2 a3 μ
    · refine v_bipush (n := 11) (v := -2) dX4_letters_9 cb_m2 rfl ?_
      exact v_iret dX4_letters_11 rfl rfl
theorem M_X4_letters (G : GG) (a1 : Int32) (a2 : Int32) (a3 : Int32) (μ : Mem) (t : Int32 × Mem) (ht : f_X4_letters a1 a2 a3 μ = some t) : GM G J_X4_letters yX4_letters [.ref (G.2.1 0), .int a1, .int a2, .int a3] μ (oI t) :=
  gm_of (J := J_X4_letters) (k := kI) rfl (by decide) (Nat.le_of_ble_eq_true rfl) (v_X4_letters G a1 a2 a3 μ) ht rfl
set_option maxRecDepth 100000 in
set_option maxHeartbeats 4000000 in
theorem v_X1_areThere (G : GG) (q0 : Nat) (hq0 : isO q0 1) (μ : Mem) : V G J_X1_areThere 0 [(0, .ref (G.2.1 q0))] [] μ (f_X1_areThere q0 μ) kI := by
  rw [f_X1_areThere]
  refine v_aload_n (n := 1) dX1_areThere_0 rfl 0 rfl rfl ?_
  refine v_getI (n := 4) (i := 5) dX1_areThere_1 hq0 rfl fg_X1_27 rfl ?_
  refine v_if_le (tgt := 11) (n := 7) dX1_areThere_4 (by decide) rfl ?_ ?_
  · refine v_iconst (n := 12) (v := 0) dX1_areThere_11 ci_0 rfl ?_
    exact v_zret dX1_areThere_12 rfl (by decide) rfl
  · refine v_iconst (n := 8) (v := 1) dX1_areThere_7 ci_1 rfl ?_
    refine v_goto (tgt := 12) dX1_areThere_8 (by decide) ?_
    exact v_zret dX1_areThere_12 rfl (by decide) rfl
theorem M_X1_areThere (G : GG) (q0 : Nat) (hq0 : isO q0 1) (μ : Mem) (t : Int32 × Mem) (ht : f_X1_areThere q0 μ = some t) : GM G J_X1_areThere yX1_areThere [.ref (G.2.1 q0)] μ (oI t) :=
  gm_of (J := J_X1_areThere) (k := kI) rfl (by decide) (Nat.le_of_ble_eq_true rfl) (v_X1_areThere G q0 hq0 μ) ht rfl
set_option maxRecDepth 100000 in
set_option maxHeartbeats 4000000 in
theorem v_X4_isPrice (G : GG) (a0 : Int32) (a1 : Int32) (μ : Mem) : V G J_X4_isPrice 0 [(0, .int a0), (1, .int a1)] [] μ (f_X4_isPrice a0 a1 μ) kI := by
  rw [f_X4_isPrice]
  refine v_iload_n (n := 1) dX4_isPrice_0 rfl 1 rfl rfl ?_
  refine v_if_lt (tgt := 24) (n := 4) dX4_isPrice_1 (by decide) rfl ?_ ?_
  · refine v_iconst (n := 25) (v := 0) dX4_isPrice_24 ci_0 rfl ?_
    exact v_zret dX4_isPrice_25 rfl (by decide) rfl
  · refine v_iload_n (n := 5) dX4_isPrice_4 rfl 1 rfl rfl ?_
    refine v_iload_n (n := 6) dX4_isPrice_5 rfl 0 rfl rfl ?_
    refine v_iconst (n := 7) (v := 2) dX4_isPrice_6 ci_2 rfl ?_
    refine v_icmp_ne (tgt := 15) (n := 10) dX4_isPrice_7 (by decide) rfl ?_ ?_
    · refine v_bipush (n := 12) (v := 7) dX4_isPrice_10 cb_7 rfl ?_
      refine v_goto (tgt := 17) dX4_isPrice_12 (by decide) ?_
      refine v_icmp_gt (tgt := 24) (n := 20) dX4_isPrice_17 (by decide) rfl ?_ ?_
      · refine v_iconst (n := 25) (v := 0) dX4_isPrice_24 ci_0 rfl ?_
        exact v_zret dX4_isPrice_25 rfl (by decide) rfl
      · refine v_iconst (n := 21) (v := 1) dX4_isPrice_20 ci_1 rfl ?_
        refine v_goto (tgt := 25) dX4_isPrice_21 (by decide) ?_
        exact v_zret dX4_isPrice_25 rfl (by decide) rfl
    · refine v_bipush (n := 17) (v := 9) dX4_isPrice_15 cb_9 rfl ?_
      refine v_icmp_gt (tgt := 24) (n := 20) dX4_isPrice_17 (by decide) rfl ?_ ?_
      · refine v_iconst (n := 25) (v := 0) dX4_isPrice_24 ci_0 rfl ?_
        exact v_zret dX4_isPrice_25 rfl (by decide) rfl
      · refine v_iconst (n := 21) (v := 1) dX4_isPrice_20 ci_1 rfl ?_
        refine v_goto (tgt := 25) dX4_isPrice_21 (by decide) ?_
        exact v_zret dX4_isPrice_25 rfl (by decide) rfl
theorem M_X4_isPrice (G : GG) (a0 : Int32) (a1 : Int32) (μ : Mem) (t : Int32 × Mem) (ht : f_X4_isPrice a0 a1 μ = some t) : GM G J_X4_isPrice yX4_isPrice [.int a0, .int a1] μ (oI t) :=
  gm_of (J := J_X4_isPrice) (k := kI) rfl (by decide) (Nat.le_of_ble_eq_true rfl) (v_X4_isPrice G a0 a1 μ) ht rfl
set_option maxRecDepth 100000 in
set_option maxHeartbeats 4000000 in
theorem v_X1_priceOf (G : GG) (q0 : Nat) (hq0 : isO q0 1) (a1 : Int32) (μ : Mem) : V G J_X1_priceOf 0 [(0, .ref (G.2.1 q0)), (1, .int a1)] [] μ (f_X1_priceOf q0 a1 μ) kI := by
  rw [f_X1_priceOf]
  refine v_iload_n (n := 1) dX1_priceOf_0 rfl 1 rfl rfl ?_
  refine v_swif ?_ (fun hs0 => ?_)
  · refine v_lkp (tgt := 28) dX1_priceOf_1 (by decide) rfl (by decide) ?_
    refine v_aload_n (n := 29) dX1_priceOf_28 rfl 0 rfl rfl ?_
    refine v_getI (n := 32) (i := 7) dX1_priceOf_29 hq0 rfl fg_X1_34 rfl ?_
    exact v_iret dX1_priceOf_32 rfl rfl
  refine v_swif ?_ (fun hs1 => ?_)
  · refine v_lkp (tgt := 33) dX1_priceOf_1 (by decide) rfl (by decide) ?_
    refine v_aload_n (n := 34) dX1_priceOf_33 rfl 0 rfl rfl ?_
    refine v_getI (n := 37) (i := 8) dX1_priceOf_34 hq0 rfl fg_X1_37 rfl ?_
    exact v_iret dX1_priceOf_37 rfl rfl
  refine v_lkp (tgt := 38) (off := 37) dX1_priceOf_1 (by decide) (by show Op.lookupswitch.offset _ _ _ = _; rw [lv_osw hs0 (by decide : (0 : Int32).toInt = 0), lv_osw hs1 (by decide : (1 : Int32).toInt = 1)]; rfl) (by decide) ?_
  refine v_aload_n (n := 39) dX1_priceOf_38 rfl 0 rfl rfl ?_
  refine v_getI (n := 42) (i := 9) dX1_priceOf_39 hq0 rfl fg_X1_40 rfl ?_
  exact v_iret dX1_priceOf_42 rfl rfl
theorem M_X1_priceOf (G : GG) (q0 : Nat) (hq0 : isO q0 1) (a1 : Int32) (μ : Mem) (t : Int32 × Mem) (ht : f_X1_priceOf q0 a1 μ = some t) : GM G J_X1_priceOf yX1_priceOf [.ref (G.2.1 q0), .int a1] μ (oI t) :=
  gm_of (J := J_X1_priceOf) (k := kI) rfl (by decide) (Nat.le_of_ble_eq_true rfl) (v_X1_priceOf G q0 hq0 a1 μ) ht rfl
set_option maxRecDepth 100000 in
set_option maxHeartbeats 4000000 in
theorem v_X1_setPrice (G : GG) (q0 : Nat) (hq0 : isO q0 1) (a1 : Int32) (a2 : Int32) (μ : Mem) : V G J_X1_setPrice 0 [(0, .ref (G.2.1 q0)), (1, .int a1), (2, .int a2)] [] μ (f_X1_setPrice q0 a1 a2 μ) kV := by
  rw [f_X1_setPrice]
  refine v_iload_n (n := 1) dX1_setPrice_0 rfl 1 rfl rfl ?_
  refine v_swif ?_ (fun hs0 => ?_)
  · refine v_lkp (tgt := 28) dX1_setPrice_1 (by decide) rfl (by decide) ?_
    refine v_aload_n (n := 29) dX1_setPrice_28 rfl 0 rfl rfl ?_
    refine v_iload_n (n := 30) dX1_setPrice_29 rfl 2 rfl rfl ?_
    refine v_put (n := 33) (i := 7) dX1_setPrice_30 hq0 rfl fp_X1_34 rfl rfl rfl ?_
    refine v_lm (fun μ1 => ?_)
    refine v_goto (tgt := 49) dX1_setPrice_33 (by decide) ?_
    exact v_vret dX1_setPrice_49 rfl rfl
  refine v_swif ?_ (fun hs1 => ?_)
  · refine v_lkp (tgt := 36) dX1_setPrice_1 (by decide) rfl (by decide) ?_
    refine v_aload_n (n := 37) dX1_setPrice_36 rfl 0 rfl rfl ?_
    refine v_iload_n (n := 38) dX1_setPrice_37 rfl 2 rfl rfl ?_
    refine v_put (n := 41) (i := 8) dX1_setPrice_38 hq0 rfl fp_X1_37 rfl rfl rfl ?_
    refine v_lm (fun μ2 => ?_)
    refine v_goto (tgt := 49) dX1_setPrice_41 (by decide) ?_
    exact v_vret dX1_setPrice_49 rfl rfl
  refine v_lkp (tgt := 44) (off := 43) dX1_setPrice_1 (by decide) (by show Op.lookupswitch.offset _ _ _ = _; rw [lv_osw hs0 (by decide : (0 : Int32).toInt = 0), lv_osw hs1 (by decide : (1 : Int32).toInt = 1)]; rfl) (by decide) ?_
  refine v_aload_n (n := 45) dX1_setPrice_44 rfl 0 rfl rfl ?_
  refine v_iload_n (n := 46) dX1_setPrice_45 rfl 2 rfl rfl ?_
  refine v_put (n := 49) (i := 9) dX1_setPrice_46 hq0 rfl fp_X1_40 rfl rfl rfl ?_
  refine v_lm (fun μ3 => ?_)
  exact v_vret dX1_setPrice_49 rfl rfl
theorem M_X1_setPrice (G : GG) (q0 : Nat) (hq0 : isO q0 1) (a1 : Int32) (a2 : Int32) (μ : Mem) (t : Mem) (ht : f_X1_setPrice q0 a1 a2 μ = some t) : GM G J_X1_setPrice yX1_setPrice [.ref (G.2.1 q0), .int a1, .int a2] μ (oV t) :=
  gm_of (J := J_X1_setPrice) (k := kV) rfl (by decide) (Nat.le_of_ble_eq_true rfl) (v_X1_setPrice G q0 hq0 a1 a2 μ) ht rfl
set_option maxRecDepth 100000 in
set_option maxHeartbeats 4000000 in
theorem v_X4_price (G : GG) (a1 : Int32) (a2 : Int32) (μ : Mem) : V G J_X4_price 0 [(0, .ref (G.2.1 0)), (1, .int a1), (2, .int a2)] [] μ (f_X4_price a1 a2 μ) kI := by
  rw [f_X4_price]
  refine v_iload_n (n := 1) dX4_price_0 rfl 1 rfl rfl ?_
  refine v_if_lt (tgt := 9) (n := 4) dX4_price_1 (by decide) rfl ?_ ?_
  · refine v_bipush (n := 11) (v := -2) dX4_price_9 cb_m2 rfl ?_
    exact v_iret dX4_price_11 rfl rfl
  · refine v_iload_n (n := 5) dX4_price_4 rfl 1 rfl rfl ?_
    refine v_iconst (n := 6) (v := 2) dX4_price_5 ci_2 rfl ?_
    refine v_icmp_le (tgt := 12) (n := 9) dX4_price_6 (by decide) rfl ?_ ?_
    · refine v_aload_n (n := 13) dX4_price_12 rfl 0 rfl rfl ?_
      refine v_getR (n := 16) (i := 1) (q2 := 2) dX4_price_13 (show isO 0 4 from rfl) rfl fg_X4_20 rfl ?_
      refine v_cVi (n := 19) (st := []) [] dX4_price_16 (fun t ht => M_X1_areThere G 2 (show isO 2 1 from rfl) μ t ht) cal_X1_areThere mw101 (show isO 2 1 from rfl) rfl rfl (Nat.le_of_ble_eq_true rfl) ⟨Nat.le_of_ble_eq_true rfl, Nat.le_of_ble_eq_true rfl⟩ rfl (fun x2 μ1 => ?_)
      refine v_if_ne (tgt := 25) (n := 22) dX4_price_19 (by decide) rfl ?_ ?_
      · refine v_bipush (n := 24) (v := -3) dX4_price_22 cb_m3 rfl ?_
        exact v_iret dX4_price_24 rfl rfl
      · refine v_iload_n (n := 26) dX4_price_25 rfl 1 rfl rfl ?_
        refine v_iload_n (n := 27) dX4_price_26 rfl 2 rfl rfl ?_
        refine v_cSi (n := 30) (st := []) [.int a1, .int a2] dX4_price_27 (fun t ht => M_X4_isPrice G a1 a2 μ1 t ht) cal_X4_isPrice mw102 rfl rfl (Nat.le_of_ble_eq_true rfl) ⟨Nat.le_of_ble_eq_true rfl, Nat.le_of_ble_eq_true rfl⟩ rfl (fun x4 μ3 => ?_)
        refine v_if_ne (tgt := 36) (n := 33) dX4_price_30 (by decide) rfl ?_ ?_
        · refine v_bipush (n := 35) (v := -2) dX4_price_33 cb_m2 rfl ?_
          exact v_iret dX4_price_35 rfl rfl
        · refine v_aload_n (n := 37) dX4_price_36 rfl 0 rfl rfl ?_
          refine v_getR (n := 40) (i := 1) (q2 := 2) dX4_price_37 (show isO 0 4 from rfl) rfl fg_X4_20 rfl ?_
          refine v_iload_n (n := 41) dX4_price_40 rfl 1 rfl rfl ?_
          refine v_cVi (n := 44) (st := []) [.int a1] dX4_price_41 (fun t ht => M_X1_priceOf G 2 (show isO 2 1 from rfl) a1 μ3 t ht) cal_X1_priceOf mw103 (show isO 2 1 from rfl) rfl rfl (Nat.le_of_ble_eq_true rfl) ⟨Nat.le_of_ble_eq_true rfl, Nat.le_of_ble_eq_true rfl⟩ rfl (fun x6 μ5 => ?_)
          refine v_istore_n (n := 45) [(3, .int x6), (0, .ref (G.2.1 0)), (1, .int a1), (2, .int a2)] dX4_price_44 rfl (by decide) rfl rfl ?_
          refine v_aload_n (n := 46) dX4_price_45 rfl 1 rfl rfl ?_
          refine v_getR (n := 49) (i := 1) (q2 := 2) dX4_price_46 (show isO 0 4 from rfl) rfl fg_X4_20 rfl ?_
          refine v_iload_n (n := 50) dX4_price_49 rfl 2 rfl rfl ?_
          refine v_iload_n (n := 51) dX4_price_50 rfl 3 rfl rfl ?_
          refine v_cVv (n := 54) (st := []) [.int a1, .int a2] dX4_price_51 (fun t ht => M_X1_setPrice G 2 (show isO 2 1 from rfl) a1 a2 μ5 t ht) cal_X1_setPrice mw104 (show isO 2 1 from rfl) rfl rfl (Nat.le_of_ble_eq_true rfl) ⟨Nat.le_of_ble_eq_true rfl, Nat.le_of_ble_eq_true rfl⟩ rfl (fun μ7 => ?_)
          refine v_aload_n (n := 55) dX4_price_54 rfl 1 rfl rfl ?_
          refine v_iconst (n := 56) (v := 0) dX4_price_55 ci_0 rfl ?_
          refine v_put (n := 59) (i := 9) dX4_price_56 (show isO 0 4 from rfl) rfl fp_X4_85 (by decide) (by decide) rfl ?_
          refine v_lm (fun μ8 => ?_)
          refine v_iload_n (n := 60) dX4_price_59 rfl 0 rfl rfl ?_
          exact v_iret dX4_price_60 rfl rfl
    · refine v_bipush (n := 11) (v := -2) dX4_price_9 cb_m2 rfl ?_
      exact v_iret dX4_price_11 rfl rfl
theorem M_X4_price (G : GG) (a1 : Int32) (a2 : Int32) (μ : Mem) (t : Int32 × Mem) (ht : f_X4_price a1 a2 μ = some t) : GM G J_X4_price yX4_price [.ref (G.2.1 0), .int a1, .int a2] μ (oI t) :=
  gm_of (J := J_X4_price) (k := kI) rfl (by decide) (Nat.le_of_ble_eq_true rfl) (v_X4_price G a1 a2 μ) ht rfl
set_option maxRecDepth 100000 in
set_option maxHeartbeats 4000000 in
theorem vjn_X1_takeMoved_75 (G : GG) (ih : Int32 → Mem → Option (Mem)) (r0v : Nat) (hr0v : isO r0v 1) (r1v : Nat) (hr1v : isO r1v 1) (x2v : Int32) (x3v : Int32) (x4v : Int32) (x5v : Int32) (x6v : Int32) (kk : (Mem) → Option Oc) (hx : ∀ (μ : Mem), V G J_X1_takeMoved 109 [] [] μ (kk μ) some) (hih : ∀ (w5v : Int32) (μ : Mem), V G J_X1_takeMoved 3 [(0, .ref (G.2.1 r0v)), (1, .ref (G.2.1 r1v)), (2, .int x2v), (3, .int x3v), (4, .int x4v), (5, .int w5v)] [] μ (ih w5v μ) kk) (μ : Mem) : V G J_X1_takeMoved 75 [(0, .ref (G.2.1 r0v)), (1, .ref (G.2.1 r1v)), (2, .int x2v), (3, .int x3v), (4, .int x4v), (5, .int x5v), (6, .int x6v)] [] μ (jn_X1_takeMoved_75 ih r0v r1v x2v x3v x4v x5v x6v μ) kk := by
  rw [jn_X1_takeMoved_75]
  refine v_aload_n (n := 76) dX1_takeMoved_75 rfl 0 rfl rfl ?_
  refine v_getR (n := 79) (i := 3) (q2 := (r0v + 4)) dX1_takeMoved_76 hr0v rfl fg_X1_21 rfl ?_
  refine v_iload (n := 81) dX1_takeMoved_79 5 rfl rfl ?_
  refine v_aload_n (n := 82) dX1_takeMoved_81 rfl 1 rfl rfl ?_
  refine v_getR (n := 85) (i := 3) (q2 := (r1v + 4)) dX1_takeMoved_82 hr1v rfl fg_X1_21 rfl ?_
  refine v_iload (n := 87) dX1_takeMoved_85 6 rfl rfl ?_
  refine v_iald (n := 88) dX1_takeMoved_87 (ar1_3 hr1v) rfl ?_
  refine v_iast (n := 89) dX1_takeMoved_88 (ar1_3 hr0v) rfl ?_
  refine v_lm (fun μ1 => ?_)
  refine v_aload_n (n := 90) dX1_takeMoved_89 rfl 0 rfl rfl ?_
  refine v_getR (n := 93) (i := 4) (q2 := (r0v + 5)) dX1_takeMoved_90 hr0v rfl fg_X1_24 rfl ?_
  refine v_iload (n := 95) dX1_takeMoved_93 5 rfl rfl ?_
  refine v_aload_n (n := 96) dX1_takeMoved_95 rfl 1 rfl rfl ?_
  refine v_getR (n := 99) (i := 4) (q2 := (r1v + 5)) dX1_takeMoved_96 hr1v rfl fg_X1_24 rfl ?_
  refine v_iload (n := 101) dX1_takeMoved_99 6 rfl rfl ?_
  refine v_iald (n := 102) dX1_takeMoved_101 (ar1_4 hr1v) rfl ?_
  refine v_iast (n := 103) dX1_takeMoved_102 (ar1_4 hr0v) rfl ?_
  refine v_lm (fun μ2 => ?_)
  refine v_iinc (n := 106) (w := 1) (fun x3 => [(5, .int x3), (0, .ref (G.2.1 r0v)), (1, .ref (G.2.1 r1v)), (2, .int x2v), (3, .int x3v), (4, .int x4v), (6, .int x6v)]) dX1_takeMoved_103 5 rfl ci_1 (by decide) (fun _ => rfl) rfl (fun x3 => ?_)
  refine v_goto (tgt := 3) dX1_takeMoved_106 (by decide) ?_
  exact v_sub [1, 2, 3, 4, 5, 0] rfl (hih x3 μ2)
set_option maxRecDepth 100000 in
set_option maxHeartbeats 4000000 in
theorem vjn_X1_takeMoved_73 (G : GG) (ih : Int32 → Mem → Option (Mem)) (r0v : Nat) (hr0v : isO r0v 1) (r1v : Nat) (hr1v : isO r1v 1) (x2v : Int32) (x3v : Int32) (x4v : Int32) (x5v : Int32) (s0v : Int32) (kk : (Mem) → Option Oc) (hx : ∀ (μ : Mem), V G J_X1_takeMoved 109 [] [] μ (kk μ) some) (hih : ∀ (w5v : Int32) (μ : Mem), V G J_X1_takeMoved 3 [(0, .ref (G.2.1 r0v)), (1, .ref (G.2.1 r1v)), (2, .int x2v), (3, .int x3v), (4, .int x4v), (5, .int w5v)] [] μ (ih w5v μ) kk) (μ : Mem) : V G J_X1_takeMoved 73 [(0, .ref (G.2.1 r0v)), (1, .ref (G.2.1 r1v)), (2, .int x2v), (3, .int x3v), (4, .int x4v), (5, .int x5v)] [.int s0v] μ (jn_X1_takeMoved_73 ih r0v r1v x2v x3v x4v x5v s0v μ) kk := by
  rw [jn_X1_takeMoved_73]
  refine v_istore (n := 75) [(6, .int s0v), (0, .ref (G.2.1 r0v)), (1, .ref (G.2.1 r1v)), (2, .int x2v), (3, .int x3v), (4, .int x4v), (5, .int x5v)] dX1_takeMoved_73 (by decide) rfl rfl ?_
  exact v_sub [1, 2, 3, 4, 5, 6, 0] rfl (vjn_X1_takeMoved_75 G ih r0v hr0v r1v hr1v x2v x3v x4v x5v s0v kk hx hih μ)
set_option maxRecDepth 100000 in
set_option maxHeartbeats 4000000 in
theorem vjn_X1_takeMoved_56 (G : GG) (ih : Int32 → Mem → Option (Mem)) (r0v : Nat) (hr0v : isO r0v 1) (r1v : Nat) (hr1v : isO r1v 1) (x2v : Int32) (x3v : Int32) (x4v : Int32) (x5v : Int32) (s0v : Int32) (kk : (Mem) → Option Oc) (hx : ∀ (μ : Mem), V G J_X1_takeMoved 109 [] [] μ (kk μ) some) (hih : ∀ (w5v : Int32) (μ : Mem), V G J_X1_takeMoved 3 [(0, .ref (G.2.1 r0v)), (1, .ref (G.2.1 r1v)), (2, .int x2v), (3, .int x3v), (4, .int x4v), (5, .int w5v)] [] μ (ih w5v μ) kk) (μ : Mem) : V G J_X1_takeMoved 56 [(0, .ref (G.2.1 r0v)), (1, .ref (G.2.1 r1v)), (2, .int x2v), (3, .int x3v), (4, .int x4v), (5, .int x5v)] [.int s0v] μ (jn_X1_takeMoved_56 ih r0v r1v x2v x3v x4v x5v s0v μ) kk := by
  rw [jn_X1_takeMoved_56]
  refine v_istore (n := 58) [(7, .int s0v), (0, .ref (G.2.1 r0v)), (1, .ref (G.2.1 r1v)), (2, .int x2v), (3, .int x3v), (4, .int x4v), (5, .int x5v)] dX1_takeMoved_56 (by decide) rfl rfl ?_
  refine v_iload (n := 60) dX1_takeMoved_58 0 rfl rfl ?_
  refine v_iload_n (n := 61) dX1_takeMoved_60 rfl 3 rfl rfl ?_
  refine v_icmp_ge (tgt := 69) (n := 64) dX1_takeMoved_61 (by decide) rfl ?_ ?_
  · refine v_iload (n := 71) dX1_takeMoved_69 0 rfl rfl ?_
    refine v_iload_n (n := 72) dX1_takeMoved_71 rfl 4 rfl rfl ?_
    refine v_iadd (n := 73) dX1_takeMoved_72 rfl ?_
    exact v_sub [1, 2, 3, 4, 5, 6] rfl (vjn_X1_takeMoved_73 G ih r0v hr0v r1v hr1v x2v x3v x4v x5v (s0v + x3v) kk hx hih μ)
  · refine v_iload (n := 66) dX1_takeMoved_64 0 rfl rfl ?_
    refine v_goto (tgt := 73) dX1_takeMoved_66 (by decide) ?_
    exact v_sub [1, 2, 3, 4, 5, 6] rfl (vjn_X1_takeMoved_73 G ih r0v hr0v r1v hr1v x2v x3v x4v x5v s0v kk hx hih μ)
set_option maxRecDepth 100000 in
set_option maxHeartbeats 4000000 in
theorem vjn_X1_takeMoved_40 (G : GG) (ih : Int32 → Mem → Option (Mem)) (r0v : Nat) (hr0v : isO r0v 1) (r1v : Nat) (hr1v : isO r1v 1) (x2v : Int32) (x3v : Int32) (x4v : Int32) (x5v : Int32) (kk : (Mem) → Option Oc) (hx : ∀ (μ : Mem), V G J_X1_takeMoved 109 [] [] μ (kk μ) some) (hih : ∀ (w5v : Int32) (μ : Mem), V G J_X1_takeMoved 3 [(0, .ref (G.2.1 r0v)), (1, .ref (G.2.1 r1v)), (2, .int x2v), (3, .int x3v), (4, .int x4v), (5, .int w5v)] [] μ (ih w5v μ) kk) (μ : Mem) : V G J_X1_takeMoved 40 [(0, .ref (G.2.1 r0v)), (1, .ref (G.2.1 r1v)), (2, .int x2v), (3, .int x3v), (4, .int x4v), (5, .int x5v)] [] μ (jn_X1_takeMoved_40 ih r0v r1v x2v x3v x4v x5v μ) kk := by
  rw [jn_X1_takeMoved_40]
  refine v_iload (n := 42) dX1_takeMoved_40 5 rfl rfl ?_
  refine v_iload (n := 44) dX1_takeMoved_42 4 rfl rfl ?_
  refine v_icmp_ge (tgt := 52) (n := 47) dX1_takeMoved_44 (by decide) rfl ?_ ?_
  · refine v_iload (n := 54) dX1_takeMoved_52 5 rfl rfl ?_
    refine v_iload_n (n := 55) dX1_takeMoved_54 rfl 3 rfl rfl ?_
    refine v_isub (n := 56) dX1_takeMoved_55 rfl ?_
    exact vjn_X1_takeMoved_56 G ih r0v hr0v r1v hr1v x2v x3v x4v x5v (x5v - x3v) kk hx hih μ
  · refine v_iload (n := 49) dX1_takeMoved_47 5 rfl rfl ?_
    refine v_goto (tgt := 56) dX1_takeMoved_49 (by decide) ?_
    exact vjn_X1_takeMoved_56 G ih r0v hr0v r1v hr1v x2v x3v x4v x5v x5v kk hx hih μ
set_option maxRecDepth 100000 in
set_option maxHeartbeats 4000000 in
theorem vlp_X1_takeMoved_3 (G : GG) (r0v : Nat) (hr0v : isO r0v 1) (r1v : Nat) (hr1v : isO r1v 1) (x2v : Int32) (x3v : Int32) (x4v : Int32) (kk : (Mem) → Option Oc) (hx : ∀ (μ : Mem), V G J_X1_takeMoved 109 [] [] μ (kk μ) some) : ∀ (n : Nat) (x5v : Int32) (μ : Mem), V G J_X1_takeMoved 3 [(0, .ref (G.2.1 r0v)), (1, .ref (G.2.1 r1v)), (2, .int x2v), (3, .int x3v), (4, .int x4v), (5, .int x5v)] [] μ (lp_X1_takeMoved_3 r0v r1v x2v x3v x4v n x5v μ) kk := by
  intro n
  induction n with
  | zero => intro _ _; exact v_none
  | succ n ih =>
    intro x5v μ
    rw [lp_X1_takeMoved_3]
    refine v_iload (n := 5) dX1_takeMoved_3 5 rfl rfl ?_
    refine v_aload_n (n := 6) dX1_takeMoved_5 rfl 0 rfl rfl ?_
    refine v_getI (n := 9) (i := 6) dX1_takeMoved_6 hr0v rfl fg_X1_31 rfl ?_
    refine v_icmp_ge (tgt := 109) (n := 12) dX1_takeMoved_9 (by decide) rfl ?_ ?_
    · exact v_leaf (v_sub [] rfl (hx  μ))
    · refine v_iload (n := 14) dX1_takeMoved_12 5 rfl rfl ?_
      refine v_iload (n := 16) dX1_takeMoved_14 4 rfl rfl ?_
      refine v_icmp_lt (tgt := 40) (n := 19) dX1_takeMoved_16 (by decide) rfl ?_ ?_
      · exact vjn_X1_takeMoved_40 G (lp_X1_takeMoved_3 r0v r1v x2v x3v x4v n) r0v hr0v r1v hr1v x2v x3v x4v x5v kk hx ih μ
      · refine v_iload (n := 21) dX1_takeMoved_19 5 rfl rfl ?_
        refine v_iload (n := 23) dX1_takeMoved_21 4 rfl rfl ?_
        refine v_iload_n (n := 24) dX1_takeMoved_23 rfl 3 rfl rfl ?_
        refine v_iadd (n := 25) dX1_takeMoved_24 rfl ?_
        refine v_icmp_ge (tgt := 40) (n := 28) dX1_takeMoved_25 (by decide) rfl ?_ ?_
        · exact vjn_X1_takeMoved_40 G (lp_X1_takeMoved_3 r0v r1v x2v x3v x4v n) r0v hr0v r1v hr1v x2v x3v x4v x5v kk hx ih μ
        · refine v_iload_n (n := 29) dX1_takeMoved_28 rfl 2 rfl rfl ?_
          refine v_iload (n := 31) dX1_takeMoved_29 5 rfl rfl ?_
          refine v_iadd (n := 32) dX1_takeMoved_31 rfl ?_
          refine v_iload (n := 34) dX1_takeMoved_32 4 rfl rfl ?_
          refine v_isub (n := 35) dX1_takeMoved_34 rfl ?_
          refine v_lt (fun x4 => ?_)
          refine v_istore (n := 37) [(6, .int x4), (0, .ref (G.2.1 r0v)), (1, .ref (G.2.1 r1v)), (2, .int x2v), (3, .int x3v), (4, .int x4v), (5, .int x5v)] dX1_takeMoved_35 (by decide) rfl rfl ?_
          refine v_goto (tgt := 75) dX1_takeMoved_37 (by decide) ?_
          exact v_sub [1, 2, 3, 4, 5, 6, 0] rfl (vjn_X1_takeMoved_75 G (lp_X1_takeMoved_3 r0v r1v x2v x3v x4v n) r0v hr0v r1v hr1v x2v x3v x4v x5v x4 kk hx ih μ)
set_option maxRecDepth 100000 in
set_option maxHeartbeats 4000000 in
theorem v_X1_takeMoved (G : GG) (q0 : Nat) (hq0 : isO q0 1) (q1 : Nat) (hq1 : isO q1 1) (a2 : Int32) (a3 : Int32) (a4 : Int32) (μ : Mem) : V G J_X1_takeMoved 0 [(0, .ref (G.2.1 q0)), (1, .ref (G.2.1 q1)), (2, .int a2), (3, .int a3), (4, .int a4)] [] μ (f_X1_takeMoved q0 q1 a2 a3 a4 μ) kV := by
  rw [f_X1_takeMoved]
  refine v_iconst (n := 1) (v := 0) dX1_takeMoved_0 ci_0 rfl ?_
  refine v_istore (n := 3) [(5, .int (0 : Int32)), (0, .ref (G.2.1 q0)), (1, .ref (G.2.1 q1)), (2, .int a2), (3, .int a3), (4, .int a4)] dX1_takeMoved_1 (by decide) rfl rfl ?_
  refine v_sub [1, 2, 3, 4, 5, 0] rfl ?_
  refine v_x1 (px := 109) (lx := (fun μ5 => [])) (mx := (fun μ5 => μ5)) (fun kk hx => vlp_X1_takeMoved_3 G q0 hq0 q1 hq1 a2 a3 a4 kk hx FU (0 : Int32) μ) (fun μ5 => ?_)
  exact v_vret dX1_takeMoved_109 rfl rfl
theorem M_X1_takeMoved (G : GG) (q0 : Nat) (hq0 : isO q0 1) (q1 : Nat) (hq1 : isO q1 1) (a2 : Int32) (a3 : Int32) (a4 : Int32) (μ : Mem) (t : Mem) (ht : f_X1_takeMoved q0 q1 a2 a3 a4 μ = some t) : GM G J_X1_takeMoved yX1_takeMoved [.ref (G.2.1 q0), .ref (G.2.1 q1), .int a2, .int a3, .int a4] μ (oV t) :=
  gm_of (J := J_X1_takeMoved) (k := kV) rfl (by decide) (Nat.le_of_ble_eq_true rfl) (v_X1_takeMoved G q0 hq0 q1 hq1 a2 a3 a4 μ) ht rfl
set_option maxRecDepth 100000 in
set_option maxHeartbeats 4000000 in
theorem v_X4_move (G : GG) (a1 : Int32) (a2 : Int32) (a3 : Int32) (μ : Mem) : V G J_X4_move 0 [(0, .ref (G.2.1 0)), (1, .int a1), (2, .int a2), (3, .int a3)] [] μ (f_X4_move a1 a2 a3 μ) kI := by
  rw [f_X4_move]
  refine v_iload_n (n := 1) dX4_move_0 rfl 2 rfl rfl ?_
  refine v_iconst (n := 2) (v := 1) dX4_move_1 ci_1 rfl ?_
  refine v_icmp_ge (tgt := 8) (n := 5) dX4_move_2 (by decide) rfl ?_ ?_
  · refine v_aload_n (n := 9) dX4_move_8 rfl 0 rfl rfl ?_
    refine v_getR (n := 12) (i := 1) (q2 := 2) dX4_move_9 (show isO 0 4 from rfl) rfl fg_X4_20 rfl ?_
    refine v_iload_n (n := 13) dX4_move_12 rfl 1 rfl rfl ?_
    refine v_cVi (n := 16) (st := []) [.int a1] dX4_move_13 (fun t ht => M_X1_hasRight G 2 (show isO 2 1 from rfl) a1 μ t ht) cal_X1_hasRight mw96 (show isO 2 1 from rfl) rfl rfl (Nat.le_of_ble_eq_true rfl) ⟨Nat.le_of_ble_eq_true rfl, Nat.le_of_ble_eq_true rfl⟩ rfl (fun x2 μ1 => ?_)
    refine v_if_eq (tgt := 32) (n := 19) dX4_move_16 (by decide) rfl ?_ ?_
    · refine v_iconst (n := 33) (v := -1) dX4_move_32 ci_m1 rfl ?_
      exact v_iret dX4_move_33 rfl rfl
    · refine v_iload_n (n := 20) dX4_move_19 rfl 2 rfl rfl ?_
      refine v_aload_n (n := 21) dX4_move_20 rfl 0 rfl rfl ?_
      refine v_getR (n := 24) (i := 1) (q2 := 2) dX4_move_21 (show isO 0 4 from rfl) rfl fg_X4_20 rfl ?_
      refine v_getI (n := 27) (i := 6) dX4_move_24 (show isO 2 1 from rfl) rfl fg_X4_92 rfl ?_
      refine v_iload_n (n := 28) dX4_move_27 rfl 1 rfl rfl ?_
      refine v_isub (n := 29) dX4_move_28 rfl ?_
      refine v_icmp_le (tgt := 34) (n := 32) dX4_move_29 (by decide) rfl ?_ ?_
      · refine v_iload_n (n := 35) dX4_move_34 rfl 3 rfl rfl ?_
        refine v_if_lt (tgt := 51) (n := 38) dX4_move_35 (by decide) rfl ?_ ?_
        · refine v_bipush (n := 53) (v := -2) dX4_move_51 cb_m2 rfl ?_
          exact v_iret dX4_move_53 rfl rfl
        · refine v_iload_n (n := 39) dX4_move_38 rfl 3 rfl rfl ?_
          refine v_aload_n (n := 40) dX4_move_39 rfl 0 rfl rfl ?_
          refine v_getR (n := 43) (i := 1) (q2 := 2) dX4_move_40 (show isO 0 4 from rfl) rfl fg_X4_20 rfl ?_
          refine v_getI (n := 46) (i := 6) dX4_move_43 (show isO 2 1 from rfl) rfl fg_X4_92 rfl ?_
          refine v_iload_n (n := 47) dX4_move_46 rfl 2 rfl rfl ?_
          refine v_isub (n := 48) dX4_move_47 rfl ?_
          refine v_icmp_le (tgt := 54) (n := 51) dX4_move_48 (by decide) rfl ?_ ?_
          · refine v_aload_n (n := 55) dX4_move_54 rfl 0 rfl rfl ?_
            refine v_getR (n := 58) (i := 2) (q2 := 8) dX4_move_55 (show isO 0 4 from rfl) rfl fg_X4_24 rfl ?_
            refine v_aload_n (n := 59) dX4_move_58 rfl 0 rfl rfl ?_
            refine v_getR (n := 62) (i := 1) (q2 := 2) dX4_move_59 (show isO 0 4 from rfl) rfl fg_X4_20 rfl ?_
            refine v_cVv (n := 65) (st := []) [.ref (G.2.1 2)] dX4_move_62 (fun t ht => M_X1_becomeLike G 8 (show isO 8 1 from rfl) 2 (show isO 2 1 from rfl) μ1 t ht) cal_X1_becomeLike mw42 (show isO 8 1 from rfl) rfl rfl (Nat.le_of_ble_eq_true rfl) ⟨Nat.le_of_ble_eq_true rfl, Nat.le_of_ble_eq_true rfl⟩ rfl (fun μ3 => ?_)
            refine v_aload_n (n := 66) dX4_move_65 rfl 0 rfl rfl ?_
            refine v_getR (n := 69) (i := 1) (q2 := 2) dX4_move_66 (show isO 0 4 from rfl) rfl fg_X4_20 rfl ?_
            refine v_aload_n (n := 70) dX4_move_69 rfl 0 rfl rfl ?_
            refine v_getR (n := 73) (i := 2) (q2 := 8) dX4_move_70 (show isO 0 4 from rfl) rfl fg_X4_24 rfl ?_
            refine v_iload_n (n := 74) dX4_move_73 rfl 1 rfl rfl ?_
            refine v_iload_n (n := 75) dX4_move_74 rfl 2 rfl rfl ?_
            refine v_iload_n (n := 76) dX4_move_75 rfl 3 rfl rfl ?_
            refine v_cVv (n := 79) (st := []) [.ref (G.2.1 8), .int a1, .int a2, .int a3] dX4_move_76 (fun t ht => M_X1_takeMoved G 2 (show isO 2 1 from rfl) 8 (show isO 8 1 from rfl) a1 a2 a3 μ3 t ht) cal_X1_takeMoved mw105 (show isO 2 1 from rfl) rfl rfl (Nat.le_of_ble_eq_true rfl) ⟨Nat.le_of_ble_eq_true rfl, Nat.le_of_ble_eq_true rfl⟩ rfl (fun μ4 => ?_)
            refine v_aload_n (n := 80) dX4_move_79 rfl 0 rfl rfl ?_
            refine v_iconst (n := 81) (v := 0) dX4_move_80 ci_0 rfl ?_
            refine v_put (n := 84) (i := 9) dX4_move_81 (show isO 0 4 from rfl) rfl fp_X4_85 (by decide) (by decide) rfl ?_
            refine v_lm (fun μ5 => ?_)
            refine v_iload_n (n := 85) dX4_move_84 rfl 2 rfl rfl ?_
            exact v_iret dX4_move_85 rfl rfl
          · refine v_bipush (n := 53) (v := -2) dX4_move_51 cb_m2 rfl ?_
            exact v_iret dX4_move_53 rfl rfl
      · refine v_iconst (n := 33) (v := -1) dX4_move_32 ci_m1 rfl ?_
        exact v_iret dX4_move_33 rfl rfl
  · refine v_bipush (n := 7) (v := -2) dX4_move_5 cb_m2 rfl ?_
    exact v_iret dX4_move_7 rfl rfl
theorem M_X4_move (G : GG) (a1 : Int32) (a2 : Int32) (a3 : Int32) (μ : Mem) (t : Int32 × Mem) (ht : f_X4_move a1 a2 a3 μ = some t) : GM G J_X4_move yX4_move [.ref (G.2.1 0), .int a1, .int a2, .int a3] μ (oI t) :=
  gm_of (J := J_X4_move) (k := kI) rfl (by decide) (Nat.le_of_ble_eq_true rfl) (v_X4_move G a1 a2 a3 μ) ht rfl
set_option maxRecDepth 100000 in
set_option maxHeartbeats 4000000 in
theorem v_X0_answer (G : GG) (q0 : Nat) (hq0 : isO q0 0) (a1 : Int32) (μ : Mem) : V G J_X0_answer 0 [(0, .ref (G.2.1 q0)), (1, .int a1)] [] μ (f_X0_answer q0 a1 μ) kI := by
  rw [f_X0_answer]
  refine v_iload_n (n := 1) dX0_answer_0 rfl 1 rfl rfl ?_
  refine v_swif ?_ (fun hs0 => ?_)
  · refine v_tblI (tgt := 28) dX0_answer_1 (by decide) (by decide) rfl (by decide) ?_
    refine v_aload_n (n := 29) dX0_answer_28 rfl 0 rfl rfl ?_
    refine v_getR (n := 32) (i := 1) (q2 := (q0 + 2)) dX0_answer_29 hq0 rfl fg_X0_15 rfl ?_
    refine v_iconst (n := 33) (v := 0) dX0_answer_32 ci_0 rfl ?_
    refine v_iald (n := 34) dX0_answer_33 (ar0_1 hq0) rfl ?_
    refine v_cSi (n := 37) (st := []) [.int (μ (q0 + 2) (0 : Int32).toNatClampNeg)] dX0_answer_34 (fun t ht => M_X0_orNone G (μ (q0 + 2) (0 : Int32).toNatClampNeg) μ t ht) cal_X0_orNone mw69 rfl rfl (Nat.le_of_ble_eq_true rfl) ⟨Nat.le_of_ble_eq_true rfl, Nat.le_of_ble_eq_true rfl⟩ rfl (fun x2 μ1 => ?_)
    exact v_iret dX0_answer_37 rfl rfl
  refine v_swif ?_ (fun hs1 => ?_)
  · refine v_tblI (tgt := 38) dX0_answer_1 (by decide) (by decide) rfl (by decide) ?_
    refine v_aload_n (n := 39) dX0_answer_38 rfl 0 rfl rfl ?_
    refine v_getI (n := 42) (i := 10) dX0_answer_39 hq0 rfl fg_X0_103 rfl ?_
    refine v_if_le (tgt := 52) (n := 45) dX0_answer_42 (by decide) rfl ?_ ?_
    · refine v_bipush (n := 54) (v := -9) dX0_answer_52 cb_m9 rfl ?_
      exact v_iret dX0_answer_54 rfl rfl
    · refine v_aload_n (n := 46) dX0_answer_45 rfl 0 rfl rfl ?_
      refine v_getI (n := 49) (i := 10) dX0_answer_46 hq0 rfl fg_X0_103 rfl ?_
      refine v_goto (tgt := 54) dX0_answer_49 (by decide) ?_
      exact v_iret dX0_answer_54 rfl rfl
  refine v_swif ?_ (fun hs2 => ?_)
  · refine v_tblI (tgt := 55) dX0_answer_1 (by decide) (by decide) rfl (by decide) ?_
    refine v_aload_n (n := 56) dX0_answer_55 rfl 0 rfl rfl ?_
    refine v_getR (n := 59) (i := 2) (q2 := (q0 + 3)) dX0_answer_56 hq0 rfl fg_X0_18 rfl ?_
    refine v_iconst (n := 60) (v := 0) dX0_answer_59 ci_0 rfl ?_
    refine v_iald (n := 61) dX0_answer_60 (ar0_2 hq0) rfl ?_
    refine v_cSi (n := 64) (st := []) [.int (μ (q0 + 3) (0 : Int32).toNatClampNeg)] dX0_answer_61 (fun t ht => M_X0_orNone G (μ (q0 + 3) (0 : Int32).toNatClampNeg) μ t ht) cal_X0_orNone mw69 rfl rfl (Nat.le_of_ble_eq_true rfl) ⟨Nat.le_of_ble_eq_true rfl, Nat.le_of_ble_eq_true rfl⟩ rfl (fun x4 μ3 => ?_)
    exact v_iret dX0_answer_64 rfl rfl
  refine v_tblO (tgt := 65) dX0_answer_1 (by have hs0 := lv_neT hs0 (by decide : (0 : Int32).toInt = 0); have hs1 := lv_neT hs1 (by decide : (1 : Int32).toInt = 1); have hs2 := lv_neT hs2 (by decide : (2 : Int32).toInt = 2); omega) (by decide) ?_
  refine v_aload_n (n := 66) dX0_answer_65 rfl 0 rfl rfl ?_
  refine v_getR (n := 69) (i := 3) (q2 := (q0 + 4)) dX0_answer_66 hq0 rfl fg_X0_21 rfl ?_
  refine v_iconst (n := 70) (v := 0) dX0_answer_69 ci_0 rfl ?_
  refine v_iald (n := 71) dX0_answer_70 (ar0_3 hq0) rfl ?_
  exact v_iret dX0_answer_71 rfl rfl
theorem M_X0_answer (G : GG) (q0 : Nat) (hq0 : isO q0 0) (a1 : Int32) (μ : Mem) (t : Int32 × Mem) (ht : f_X0_answer q0 a1 μ = some t) : GM G J_X0_answer yX0_answer [.ref (G.2.1 q0), .int a1] μ (oI t) :=
  gm_of (J := J_X0_answer) (k := kI) rfl (by decide) (Nat.le_of_ble_eq_true rfl) (v_X0_answer G q0 hq0 a1 μ) ht rfl
set_option maxRecDepth 100000 in
set_option maxHeartbeats 4000000 in
theorem v_X4_best (G : GG) (a1 : Int32) (μ : Mem) : V G J_X4_best 0 [(0, .ref (G.2.1 0)), (1, .int a1)] [] μ (f_X4_best a1 μ) kI := by
  rw [f_X4_best]
  refine v_iload_n (n := 1) dX4_best_0 rfl 1 rfl rfl ?_
  refine v_if_lt (tgt := 9) (n := 4) dX4_best_1 (by decide) rfl ?_ ?_
  · refine v_bipush (n := 11) (v := -2) dX4_best_9 cb_m2 rfl ?_
    exact v_iret dX4_best_11 rfl rfl
  · refine v_iload_n (n := 5) dX4_best_4 rfl 1 rfl rfl ?_
    refine v_iconst (n := 6) (v := 3) dX4_best_5 ci_3 rfl ?_
    refine v_icmp_le (tgt := 12) (n := 9) dX4_best_6 (by decide) rfl ?_ ?_
    · refine v_aload_n (n := 13) dX4_best_12 rfl 0 rfl rfl ?_
      refine v_getR (n := 16) (i := 1) (q2 := 2) dX4_best_13 (show isO 0 4 from rfl) rfl fg_X4_20 rfl ?_
      refine v_cVi (n := 19) (st := []) [] dX4_best_16 (fun t ht => M_X1_areThere G 2 (show isO 2 1 from rfl) μ t ht) cal_X1_areThere mw101 (show isO 2 1 from rfl) rfl rfl (Nat.le_of_ble_eq_true rfl) ⟨Nat.le_of_ble_eq_true rfl, Nat.le_of_ble_eq_true rfl⟩ rfl (fun x2 μ1 => ?_)
      refine v_if_eq (tgt := 33) (n := 22) dX4_best_19 (by decide) rfl ?_ ?_
      · refine v_bipush (n := 35) (v := -3) dX4_best_33 cb_m3 rfl ?_
        exact v_iret dX4_best_35 rfl rfl
      · refine v_aload_n (n := 23) dX4_best_22 rfl 0 rfl rfl ?_
        refine v_cVa (n := 26) (st := []) [] dX4_best_23 (fun t ht => M_X4_alignmentOfNow G μ1 t ht) cal_X4_alignmentOfNow mw94 (show isO 0 4 from rfl) rfl rfl (Nat.le_of_ble_eq_true rfl) ⟨Nat.le_of_ble_eq_true rfl, Nat.le_of_ble_eq_true rfl⟩ rfl (fun μ3 => ?_)
        refine v_iload_n (n := 27) dX4_best_26 rfl 1 rfl rfl ?_
        refine v_cVi (n := 30) (st := []) [.int a1] dX4_best_27 (fun t ht => M_X0_answer G 14 (show isO 14 0 from rfl) a1 μ3 t ht) cal_X0_answer mw106 (show isO 14 0 from rfl) rfl rfl (Nat.le_of_ble_eq_true rfl) ⟨Nat.le_of_ble_eq_true rfl, Nat.le_of_ble_eq_true rfl⟩ rfl (fun x5 μ4 => ?_)
        refine v_goto (tgt := 35) dX4_best_30 (by decide) ?_
        exact v_iret dX4_best_35 rfl rfl
    · refine v_bipush (n := 11) (v := -2) dX4_best_9 cb_m2 rfl ?_
      exact v_iret dX4_best_11 rfl rfl
theorem M_X4_best (G : GG) (a1 : Int32) (μ : Mem) (t : Int32 × Mem) (ht : f_X4_best a1 μ = some t) : GM G J_X4_best yX4_best [.ref (G.2.1 0), .int a1] μ (oI t) :=
  gm_of (J := J_X4_best) (k := kI) rfl (by decide) (Nat.le_of_ble_eq_true rfl) (v_X4_best G a1 μ) ht rfl
set_option maxRecDepth 100000 in
set_option maxHeartbeats 4000000 in
theorem v_X0_costOfPair (G : GG) (q0 : Nat) (hq0 : isO q0 0) (a1 : Int32) (μ : Mem) : V G J_X0_costOfPair 0 [(0, .ref (G.2.1 q0)), (1, .int a1)] [] μ (f_X0_costOfPair q0 a1 μ) kI := by
  rw [f_X0_costOfPair]
  refine v_aload_n (n := 1) dX0_costOfPair_0 rfl 0 rfl rfl ?_
  refine v_getR (n := 4) (i := 0) (q2 := (q0 + 1)) dX0_costOfPair_1 hq0 rfl fg_X0_9 rfl ?_
  refine v_aload_n (n := 5) dX0_costOfPair_4 rfl 0 rfl rfl ?_
  refine v_getR (n := 8) (i := 5) (q2 := (q0 + 6)) dX0_costOfPair_5 hq0 rfl fg_X0_27 rfl ?_
  refine v_iload_n (n := 9) dX0_costOfPair_8 rfl 1 rfl rfl ?_
  refine v_iald (n := 10) dX0_costOfPair_9 (ar0_5 hq0) rfl ?_
  refine v_bipush (n := 12) (v := 64) dX0_costOfPair_10 cb_64 rfl ?_
  refine v_imul (n := 13) dX0_costOfPair_12 rfl ?_
  refine v_aload_n (n := 14) dX0_costOfPair_13 rfl 0 rfl rfl ?_
  refine v_getR (n := 17) (i := 6) (q2 := (q0 + 7)) dX0_costOfPair_14 hq0 rfl fg_X0_30 rfl ?_
  refine v_iload_n (n := 18) dX0_costOfPair_17 rfl 1 rfl rfl ?_
  refine v_iald (n := 19) dX0_costOfPair_18 (ar0_6 hq0) rfl ?_
  refine v_bipush (n := 21) (v := 8) dX0_costOfPair_19 cb_8 rfl ?_
  refine v_imul (n := 22) dX0_costOfPair_21 rfl ?_
  refine v_iadd (n := 23) dX0_costOfPair_22 rfl ?_
  refine v_aload_n (n := 24) dX0_costOfPair_23 rfl 0 rfl rfl ?_
  refine v_getR (n := 27) (i := 7) (q2 := (q0 + 8)) dX0_costOfPair_24 hq0 rfl fg_X0_33 rfl ?_
  refine v_iload_n (n := 28) dX0_costOfPair_27 rfl 1 rfl rfl ?_
  refine v_iald (n := 29) dX0_costOfPair_28 (ar0_7 hq0) rfl ?_
  refine v_iadd (n := 30) dX0_costOfPair_29 rfl ?_
  refine v_iald (n := 31) dX0_costOfPair_30 (ar0_0 hq0) rfl ?_
  exact v_iret dX0_costOfPair_31 rfl rfl
theorem M_X0_costOfPair (G : GG) (q0 : Nat) (hq0 : isO q0 0) (a1 : Int32) (μ : Mem) (t : Int32 × Mem) (ht : f_X0_costOfPair q0 a1 μ = some t) : GM G J_X0_costOfPair yX0_costOfPair [.ref (G.2.1 q0), .int a1] μ (oI t) :=
  gm_of (J := J_X0_costOfPair) (k := kI) rfl (by decide) (Nat.le_of_ble_eq_true rfl) (v_X0_costOfPair G q0 hq0 a1 μ) ht rfl
set_option maxRecDepth 100000 in
set_option maxHeartbeats 4000000 in
theorem v_X4_ofPair (G : GG) (a1 : Int32) (a2 : Int32) (μ : Mem) : V G J_X4_ofPair 0 [(0, .ref (G.2.1 0)), (1, .int a1), (2, .int a2)] [] μ (f_X4_ofPair a1 a2 μ) kI := by
  rw [f_X4_ofPair]
  refine v_aload_n (n := 1) dX4_ofPair_0 rfl 0 rfl rfl ?_
  refine v_cVa (n := 4) (st := []) [] dX4_ofPair_1 (fun t ht => M_X4_alignmentOfNow G μ t ht) cal_X4_alignmentOfNow mw94 (show isO 0 4 from rfl) rfl rfl (Nat.le_of_ble_eq_true rfl) ⟨Nat.le_of_ble_eq_true rfl, Nat.le_of_ble_eq_true rfl⟩ rfl (fun μ1 => ?_)
  refine v_astore_n (n := 5) [(3, .ref (G.2.1 14)), (0, .ref (G.2.1 0)), (1, .int a1), (2, .int a2)] dX4_ofPair_4 rfl (by decide) rfl rfl ?_
  refine v_iload_n (n := 6) dX4_ofPair_5 rfl 2 rfl rfl ?_
  refine v_if_lt (tgt := 17) (n := 9) dX4_ofPair_6 (by decide) rfl ?_ ?_
  · refine v_iconst (n := 18) (v := -1) dX4_ofPair_17 ci_m1 rfl ?_
    exact v_iret dX4_ofPair_18 rfl rfl
  · refine v_iload_n (n := 10) dX4_ofPair_9 rfl 2 rfl rfl ?_
    refine v_aload_n (n := 11) dX4_ofPair_10 rfl 0 rfl rfl ?_
    refine v_getI (n := 14) (i := 10) dX4_ofPair_11 (show isO 14 0 from rfl) rfl fg_X4_153 rfl ?_
    refine v_icmp_lt (tgt := 19) (n := 17) dX4_ofPair_14 (by decide) rfl ?_ ?_
    · refine v_iload_n (n := 20) dX4_ofPair_19 rfl 3 rfl rfl ?_
      refine v_swif ?_ (fun hs0 => ?_)
      · refine v_tblI (tgt := 52) dX4_ofPair_20 (by decide) (by decide) rfl (by decide) ?_
        refine v_aload_n (n := 53) dX4_ofPair_52 rfl 0 rfl rfl ?_
        refine v_getR (n := 56) (i := 5) (q2 := 20) dX4_ofPair_53 (show isO 14 0 from rfl) rfl fg_X4_156 rfl ?_
        refine v_iload_n (n := 57) dX4_ofPair_56 rfl 2 rfl rfl ?_
        refine v_iald (n := 58) dX4_ofPair_57 (show isA 20 14 from rfl) rfl ?_
        exact v_iret dX4_ofPair_58 rfl rfl
      refine v_swif ?_ (fun hs1 => ?_)
      · refine v_tblI (tgt := 59) dX4_ofPair_20 (by decide) (by decide) rfl (by decide) ?_
        refine v_aload_n (n := 60) dX4_ofPair_59 rfl 0 rfl rfl ?_
        refine v_getR (n := 63) (i := 6) (q2 := 21) dX4_ofPair_60 (show isO 14 0 from rfl) rfl fg_X4_159 rfl ?_
        refine v_iload_n (n := 64) dX4_ofPair_63 rfl 2 rfl rfl ?_
        refine v_iald (n := 65) dX4_ofPair_64 (show isA 21 14 from rfl) rfl ?_
        exact v_iret dX4_ofPair_65 rfl rfl
      refine v_swif ?_ (fun hs2 => ?_)
      · refine v_tblI (tgt := 66) dX4_ofPair_20 (by decide) (by decide) rfl (by decide) ?_
        refine v_aload_n (n := 67) dX4_ofPair_66 rfl 0 rfl rfl ?_
        refine v_getR (n := 70) (i := 7) (q2 := 22) dX4_ofPair_67 (show isO 14 0 from rfl) rfl fg_X4_162 rfl ?_
        refine v_iload_n (n := 71) dX4_ofPair_70 rfl 2 rfl rfl ?_
        refine v_iald (n := 72) dX4_ofPair_71 (show isA 22 14 from rfl) rfl ?_
        exact v_iret dX4_ofPair_72 rfl rfl
      refine v_swif ?_ (fun hs3 => ?_)
      · refine v_tblI (tgt := 73) dX4_ofPair_20 (by decide) (by decide) rfl (by decide) ?_
        refine v_aload_n (n := 74) dX4_ofPair_73 rfl 0 rfl rfl ?_
        refine v_iload_n (n := 75) dX4_ofPair_74 rfl 2 rfl rfl ?_
        refine v_cVi (n := 78) (st := []) [.int a1] dX4_ofPair_75 (fun t ht => M_X0_costOfPair G 14 (show isO 14 0 from rfl) a1 μ1 t ht) cal_X0_costOfPair mw111 (show isO 14 0 from rfl) rfl rfl (Nat.le_of_ble_eq_true rfl) ⟨Nat.le_of_ble_eq_true rfl, Nat.le_of_ble_eq_true rfl⟩ rfl (fun x3 μ2 => ?_)
        exact v_iret dX4_ofPair_78 rfl rfl
      refine v_tblO (tgt := 79) dX4_ofPair_20 (by have hs0 := lv_neT hs0 (by decide : (0 : Int32).toInt = 0); have hs1 := lv_neT hs1 (by decide : (1 : Int32).toInt = 1); have hs2 := lv_neT hs2 (by decide : (2 : Int32).toInt = 2); have hs3 := lv_neT hs3 (by decide : (3 : Int32).toInt = 3); omega) (by decide) ?_
      refine v_bipush (n := 81) (v := -2) dX4_ofPair_79 cb_m2 rfl ?_
      exact v_iret dX4_ofPair_81 rfl rfl
    · refine v_iconst (n := 18) (v := -1) dX4_ofPair_17 ci_m1 rfl ?_
      exact v_iret dX4_ofPair_18 rfl rfl
theorem M_X4_ofPair (G : GG) (a1 : Int32) (a2 : Int32) (μ : Mem) (t : Int32 × Mem) (ht : f_X4_ofPair a1 a2 μ = some t) : GM G J_X4_ofPair yX4_ofPair [.ref (G.2.1 0), .int a1, .int a2] μ (oI t) :=
  gm_of (J := J_X4_ofPair) (k := kI) rfl (by decide) (Nat.le_of_ble_eq_true rfl) (v_X4_ofPair G a1 a2 μ) ht rfl
set_option maxRecDepth 100000 in
set_option maxHeartbeats 4000000 in
theorem v_X4_isSort (G : GG) (a0 : Int32) (μ : Mem) : V G J_X4_isSort 0 [(0, .int a0)] [] μ (f_X4_isSort a0 μ) kI := by
  rw [f_X4_isSort]
  refine v_iload_n (n := 1) dX4_isSort_0 rfl 0 rfl rfl ?_
  refine v_if_lt (tgt := 13) (n := 4) dX4_isSort_1 (by decide) rfl ?_ ?_
  · refine v_iconst (n := 14) (v := 0) dX4_isSort_13 ci_0 rfl ?_
    exact v_zret dX4_isSort_14 rfl (by decide) rfl
  · refine v_iload_n (n := 5) dX4_isSort_4 rfl 0 rfl rfl ?_
    refine v_iconst (n := 6) (v := 5) dX4_isSort_5 ci_5 rfl ?_
    refine v_icmp_ge (tgt := 13) (n := 9) dX4_isSort_6 (by decide) rfl ?_ ?_
    · refine v_iconst (n := 14) (v := 0) dX4_isSort_13 ci_0 rfl ?_
      exact v_zret dX4_isSort_14 rfl (by decide) rfl
    · refine v_iconst (n := 10) (v := 1) dX4_isSort_9 ci_1 rfl ?_
      refine v_goto (tgt := 14) dX4_isSort_10 (by decide) ?_
      exact v_zret dX4_isSort_14 rfl (by decide) rfl
theorem M_X4_isSort (G : GG) (a0 : Int32) (μ : Mem) (t : Int32 × Mem) (ht : f_X4_isSort a0 μ = some t) : GM G J_X4_isSort yX4_isSort [.int a0] μ (oI t) :=
  gm_of (J := J_X4_isSort) (k := kI) rfl (by decide) (Nat.le_of_ble_eq_true rfl) (v_X4_isSort G a0 μ) ht rfl
set_option maxRecDepth 100000 in
set_option maxHeartbeats 4000000 in
theorem v_X4_cost (G : GG) (a1 : Int32) (a2 : Int32) (a3 : Int32) (μ : Mem) : V G J_X4_cost 0 [(0, .ref (G.2.1 0)), (1, .int a1), (2, .int a2), (3, .int a3)] [] μ (f_X4_cost a1 a2 a3 μ) kI := by
  rw [f_X4_cost]
  refine v_iload_n (n := 1) dX4_cost_0 rfl 1 rfl rfl ?_
  refine v_cSi (n := 4) (st := []) [.int a1] dX4_cost_1 (fun t ht => M_X4_isSort G a1 μ t ht) cal_X4_isSort mw112 rfl rfl (Nat.le_of_ble_eq_true rfl) ⟨Nat.le_of_ble_eq_true rfl, Nat.le_of_ble_eq_true rfl⟩ rfl (fun x2 μ1 => ?_)
  refine v_if_ne (tgt := 10) (n := 7) dX4_cost_4 (by decide) rfl ?_ ?_
  · refine v_bipush (n := 9) (v := -2) dX4_cost_7 cb_m2 rfl ?_
    exact v_iret dX4_cost_9 rfl rfl
  · refine v_aload_n (n := 11) dX4_cost_10 rfl 0 rfl rfl ?_
    refine v_getR (n := 14) (i := 1) (q2 := 2) dX4_cost_11 (show isO 0 4 from rfl) rfl fg_X4_20 rfl ?_
    refine v_iload_n (n := 15) dX4_cost_14 rfl 1 rfl rfl ?_
    refine v_iload_n (n := 16) dX4_cost_15 rfl 2 rfl rfl ?_
    refine v_iload_n (n := 17) dX4_cost_16 rfl 3 rfl rfl ?_
    refine v_cVi (n := 20) (st := []) [.int a1, .int a2, .int a3] dX4_cost_17 (fun t ht => M_X1_hasPair G 2 (show isO 2 1 from rfl) a1 a2 a3 μ1 t ht) cal_X1_hasPair mw113 (show isO 2 1 from rfl) rfl rfl (Nat.le_of_ble_eq_true rfl) ⟨Nat.le_of_ble_eq_true rfl, Nat.le_of_ble_eq_true rfl⟩ rfl (fun x4 μ3 => ?_)
    refine v_if_eq (tgt := 36) (n := 23) dX4_cost_20 (by decide) rfl ?_ ?_
    · refine v_iconst (n := 37) (v := -1) dX4_cost_36 ci_m1 rfl ?_
      exact v_iret dX4_cost_37 rfl rfl
    · refine v_aload_n (n := 24) dX4_cost_23 rfl 0 rfl rfl ?_
      refine v_getR (n := 27) (i := 1) (q2 := 2) dX4_cost_24 (show isO 0 4 from rfl) rfl fg_X4_20 rfl ?_
      refine v_iload_n (n := 28) dX4_cost_27 rfl 1 rfl rfl ?_
      refine v_iload_n (n := 29) dX4_cost_28 rfl 2 rfl rfl ?_
      refine v_iload_n (n := 30) dX4_cost_29 rfl 3 rfl rfl ?_
      refine v_cVi (n := 33) (st := []) [.int a1, .int a2, .int a3] dX4_cost_30 (fun t ht => M_X1_pairCost G 2 (show isO 2 1 from rfl) a1 a2 a3 μ3 t ht) cal_X1_pairCost mw114 (show isO 2 1 from rfl) rfl rfl (Nat.le_of_ble_eq_true rfl) ⟨Nat.le_of_ble_eq_true rfl, Nat.le_of_ble_eq_true rfl⟩ rfl (fun x6 μ5 => ?_)
      refine v_goto (tgt := 37) dX4_cost_33 (by decide) ?_
      exact v_iret dX4_cost_37 rfl rfl
theorem M_X4_cost (G : GG) (a1 : Int32) (a2 : Int32) (a3 : Int32) (μ : Mem) (t : Int32 × Mem) (ht : f_X4_cost a1 a2 a3 μ = some t) : GM G J_X4_cost yX4_cost [.ref (G.2.1 0), .int a1, .int a2, .int a3] μ (oI t) :=
  gm_of (J := J_X4_cost) (k := kI) rfl (by decide) (Nat.le_of_ble_eq_true rfl) (v_X4_cost G a1 a2 a3 μ) ht rfl
set_option maxRecDepth 100000 in
set_option maxHeartbeats 4000000 in
theorem vjn_X4_isAskedOfDay_9 (G : GG) (x0v : Int32) (μ : Mem) : V G J_X4_isAskedOfDay 9 [(0, .int x0v)] [] μ (jn_X4_isAskedOfDay_9 x0v μ) kI := by
  rw [jn_X4_isAskedOfDay_9]
  refine v_iload_n (n := 10) dX4_isAskedOfDay_9 rfl 0 rfl rfl ?_
  refine v_bipush (n := 12) (v := 10) dX4_isAskedOfDay_10 cb_10 rfl ?_
  refine v_icmp_lt (tgt := 25) (n := 15) dX4_isAskedOfDay_12 (by decide) rfl ?_ ?_
  · refine v_iconst (n := 26) (v := 0) dX4_isAskedOfDay_25 ci_0 rfl ?_
    exact v_zret dX4_isAskedOfDay_26 rfl (by decide) rfl
  · refine v_iload_n (n := 16) dX4_isAskedOfDay_15 rfl 0 rfl rfl ?_
    refine v_bipush (n := 18) (v := 17) dX4_isAskedOfDay_16 cb_17 rfl ?_
    refine v_icmp_ge (tgt := 25) (n := 21) dX4_isAskedOfDay_18 (by decide) rfl ?_ ?_
    · refine v_iconst (n := 26) (v := 0) dX4_isAskedOfDay_25 ci_0 rfl ?_
      exact v_zret dX4_isAskedOfDay_26 rfl (by decide) rfl
    · refine v_iconst (n := 22) (v := 1) dX4_isAskedOfDay_21 ci_1 rfl ?_
      refine v_goto (tgt := 26) dX4_isAskedOfDay_22 (by decide) ?_
      exact v_zret dX4_isAskedOfDay_26 rfl (by decide) rfl
set_option maxRecDepth 100000 in
set_option maxHeartbeats 4000000 in
theorem v_X4_isAskedOfDay (G : GG) (a0 : Int32) (μ : Mem) : V G J_X4_isAskedOfDay 0 [(0, .int a0)] [] μ (f_X4_isAskedOfDay a0 μ) kI := by
  rw [f_X4_isAskedOfDay]
  refine v_iload_n (n := 1) dX4_isAskedOfDay_0 rfl 0 rfl rfl ?_
  refine v_if_lt (tgt := 9) (n := 4) dX4_isAskedOfDay_1 (by decide) rfl ?_ ?_
  · exact vjn_X4_isAskedOfDay_9 G a0 μ
  · refine v_iload_n (n := 5) dX4_isAskedOfDay_4 rfl 0 rfl rfl ?_
    refine v_iconst (n := 6) (v := 4) dX4_isAskedOfDay_5 ci_4 rfl ?_
    refine v_icmp_le (tgt := 21) (n := 9) dX4_isAskedOfDay_6 (by decide) rfl ?_ ?_
    · refine v_iconst (n := 22) (v := 1) dX4_isAskedOfDay_21 ci_1 rfl ?_
      refine v_goto (tgt := 26) dX4_isAskedOfDay_22 (by decide) ?_
      exact v_zret dX4_isAskedOfDay_26 rfl (by decide) rfl
    · exact vjn_X4_isAskedOfDay_9 G a0 μ
theorem M_X4_isAskedOfDay (G : GG) (a0 : Int32) (μ : Mem) (t : Int32 × Mem) (ht : f_X4_isAskedOfDay a0 μ = some t) : GM G J_X4_isAskedOfDay yX4_isAskedOfDay [.int a0] μ (oI t) :=
  gm_of (J := J_X4_isAskedOfDay) (k := kI) rfl (by decide) (Nat.le_of_ble_eq_true rfl) (v_X4_isAskedOfDay G a0 μ) ht rfl
set_option maxRecDepth 100000 in
set_option maxHeartbeats 4000000 in
theorem vjn_X4_isAct_54 (G : GG) (x0v : Int32) (x2v : Int32) (s0v : Int32) (μ : Mem) : V G J_X4_isAct 54 [(0, .int x0v), (2, .int x2v)] [.int s0v] μ (jn_X4_isAct_54 x0v x2v s0v μ) kI := by
  rw [jn_X4_isAct_54]
  refine v_istore_n (n := 55) [(3, .int s0v), (0, .int x0v), (2, .int x2v)] dX4_isAct_54 rfl (by decide) rfl rfl ?_
  refine v_iload_n (n := 56) dX4_isAct_55 rfl 2 rfl rfl ?_
  refine v_if_ne (tgt := 63) (n := 59) dX4_isAct_56 (by decide) rfl ?_ ?_
  · refine v_iload_n (n := 60) dX4_isAct_59 rfl 0 rfl rfl ?_
    refine v_if_eq (tgt := 74) (n := 63) dX4_isAct_60 (by decide) rfl ?_ ?_
    · refine v_iconst (n := 75) (v := 0) dX4_isAct_74 ci_0 rfl ?_
      exact v_zret dX4_isAct_75 rfl (by decide) rfl
    · refine v_iload_n (n := 64) dX4_isAct_63 rfl 1 rfl rfl ?_
      refine v_cSi (n := 67) (st := []) [.int x0v] dX4_isAct_64 (fun t ht => M_X4_isLetters G x0v μ t ht) cal_X4_isLetters mw100 rfl rfl (Nat.le_of_ble_eq_true rfl) ⟨Nat.le_of_ble_eq_true rfl, Nat.le_of_ble_eq_true rfl⟩ rfl (fun x4 μ3 => ?_)
      refine v_if_eq (tgt := 74) (n := 70) dX4_isAct_67 (by decide) rfl ?_ ?_
      · refine v_iconst (n := 75) (v := 0) dX4_isAct_74 ci_0 rfl ?_
        exact v_zret dX4_isAct_75 rfl (by decide) rfl
      · refine v_iconst (n := 71) (v := 1) dX4_isAct_70 ci_1 rfl ?_
        refine v_goto (tgt := 75) dX4_isAct_71 (by decide) ?_
        exact v_zret dX4_isAct_75 rfl (by decide) rfl
  · refine v_iload_n (n := 64) dX4_isAct_63 rfl 1 rfl rfl ?_
    refine v_cSi (n := 67) (st := []) [.int x0v] dX4_isAct_64 (fun t ht => M_X4_isLetters G x0v μ t ht) cal_X4_isLetters mw100 rfl rfl (Nat.le_of_ble_eq_true rfl) ⟨Nat.le_of_ble_eq_true rfl, Nat.le_of_ble_eq_true rfl⟩ rfl (fun x2 μ1 => ?_)
    refine v_if_eq (tgt := 74) (n := 70) dX4_isAct_67 (by decide) rfl ?_ ?_
    · refine v_iconst (n := 75) (v := 0) dX4_isAct_74 ci_0 rfl ?_
      exact v_zret dX4_isAct_75 rfl (by decide) rfl
    · refine v_iconst (n := 71) (v := 1) dX4_isAct_70 ci_1 rfl ?_
      refine v_goto (tgt := 75) dX4_isAct_71 (by decide) ?_
      exact v_zret dX4_isAct_75 rfl (by decide) rfl
set_option maxRecDepth 100000 in
set_option maxHeartbeats 4000000 in
theorem vjn_X4_isAct_53 (G : GG) (x0v : Int32) (x2v : Int32) (μ : Mem) : V G J_X4_isAct 53 [(0, .int x0v), (2, .int x2v)] [] μ (jn_X4_isAct_53 x0v x2v μ) kI := by
  rw [jn_X4_isAct_53]
  refine v_iconst (n := 54) (v := 0) dX4_isAct_53 ci_0 rfl ?_
  exact vjn_X4_isAct_54 G x0v x2v (0 : Int32) μ
set_option maxRecDepth 100000 in
set_option maxHeartbeats 4000000 in
theorem vjn_X4_isAct_36 (G : GG) (x0v : Int32) (x1v : Int32) (s0v : Int32) (μ : Mem) : V G J_X4_isAct 36 [(0, .int x0v), (1, .int x1v)] [.int s0v] μ (jn_X4_isAct_36 x0v x1v s0v μ) kI := by
  rw [jn_X4_isAct_36]
  refine v_istore_n (n := 37) [(2, .int s0v), (0, .int x0v), (1, .int x1v)] dX4_isAct_36 rfl (by decide) rfl rfl ?_
  refine v_iload_n (n := 38) dX4_isAct_37 rfl 2 rfl rfl ?_
  refine v_bipush (n := 40) (v := 10) dX4_isAct_38 cb_10 rfl ?_
  refine v_icmp_lt (tgt := 53) (n := 43) dX4_isAct_40 (by decide) rfl ?_ ?_
  · exact v_sub [1, 0] rfl (vjn_X4_isAct_53 G x0v s0v μ)
  · refine v_iload_n (n := 44) dX4_isAct_43 rfl 2 rfl rfl ?_
    refine v_bipush (n := 46) (v := 17) dX4_isAct_44 cb_17 rfl ?_
    refine v_icmp_ge (tgt := 53) (n := 49) dX4_isAct_46 (by decide) rfl ?_ ?_
    · exact v_sub [1, 0] rfl (vjn_X4_isAct_53 G x0v s0v μ)
    · refine v_iconst (n := 50) (v := 1) dX4_isAct_49 ci_1 rfl ?_
      refine v_goto (tgt := 54) dX4_isAct_50 (by decide) ?_
      exact v_sub [1, 0] rfl (vjn_X4_isAct_54 G x0v s0v (1 : Int32) μ)
set_option maxRecDepth 100000 in
set_option maxHeartbeats 4000000 in
theorem vjn_X4_isAct_35 (G : GG) (x0v : Int32) (x1v : Int32) (μ : Mem) : V G J_X4_isAct 35 [(0, .int x0v), (1, .int x1v)] [] μ (jn_X4_isAct_35 x0v x1v μ) kI := by
  rw [jn_X4_isAct_35]
  refine v_iconst (n := 36) (v := 0) dX4_isAct_35 ci_0 rfl ?_
  exact vjn_X4_isAct_36 G x0v x1v (0 : Int32) μ
set_option maxRecDepth 100000 in
set_option maxHeartbeats 4000000 in
theorem vjn_X4_isAct_21 (G : GG) (x0v : Int32) (x1v : Int32) (μ : Mem) : V G J_X4_isAct 21 [(0, .int x0v), (1, .int x1v)] [] μ (jn_X4_isAct_21 x0v x1v μ) kI := by
  rw [jn_X4_isAct_21]
  refine v_iload_n (n := 22) dX4_isAct_21 rfl 1 rfl rfl ?_
  refine v_if_lt (tgt := 35) (n := 25) dX4_isAct_22 (by decide) rfl ?_ ?_
  · exact vjn_X4_isAct_35 G x0v x1v μ
  · refine v_iload_n (n := 26) dX4_isAct_25 rfl 1 rfl rfl ?_
    refine v_bipush (n := 28) (v := 7) dX4_isAct_26 cb_7 rfl ?_
    refine v_icmp_ge (tgt := 35) (n := 31) dX4_isAct_28 (by decide) rfl ?_ ?_
    · exact vjn_X4_isAct_35 G x0v x1v μ
    · refine v_iconst (n := 32) (v := 1) dX4_isAct_31 ci_1 rfl ?_
      refine v_goto (tgt := 36) dX4_isAct_32 (by decide) ?_
      exact vjn_X4_isAct_36 G x0v x1v (1 : Int32) μ
set_option maxRecDepth 100000 in
set_option maxHeartbeats 4000000 in
theorem v_X4_isAct (G : GG) (a0 : Int32) (a1 : Int32) (μ : Mem) : V G J_X4_isAct 0 [(0, .int a0), (1, .int a1)] [] μ (f_X4_isAct a0 a1 μ) kI := by
  rw [f_X4_isAct]
  refine v_iload_n (n := 1) dX4_isAct_0 rfl 1 rfl rfl ?_
  refine v_bipush (n := 3) (v := 20) dX4_isAct_1 cb_20 rfl ?_
  refine v_icmp_lt (tgt := 21) (n := 6) dX4_isAct_3 (by decide) rfl ?_ ?_
  · exact vjn_X4_isAct_21 G a0 a1 μ
  · refine v_iload_n (n := 7) dX4_isAct_6 rfl 1 rfl rfl ?_
    refine v_bipush (n := 9) (v := 22) dX4_isAct_7 cb_22 rfl ?_
    refine v_icmp_gt (tgt := 21) (n := 12) dX4_isAct_9 (by decide) rfl ?_ ?_
    · exact vjn_X4_isAct_21 G a0 a1 μ
    · refine v_iload_n (n := 13) dX4_isAct_12 rfl 1 rfl rfl ?_
      refine v_bipush (n := 15) (v := 20) dX4_isAct_13 cb_20 rfl ?_
      refine v_isub (n := 16) dX4_isAct_15 rfl ?_
      refine v_iload_n (n := 17) dX4_isAct_16 rfl 0 rfl rfl ?_
      refine v_cSi (n := 20) (st := []) [.int (a1 - (20 : Int32)), .int a0] dX4_isAct_17 (fun t ht => M_X4_isPrice G (a1 - (20 : Int32)) a0 μ t ht) cal_X4_isPrice mw102 rfl rfl (Nat.le_of_ble_eq_true rfl) ⟨Nat.le_of_ble_eq_true rfl, Nat.le_of_ble_eq_true rfl⟩ rfl (fun x6 μ5 => ?_)
      exact v_zretV dX4_isAct_20 rfl rfl
theorem M_X4_isAct (G : GG) (a0 : Int32) (a1 : Int32) (μ : Mem) (t : Int32 × Mem) (ht : f_X4_isAct a0 a1 μ = some t) : GM G J_X4_isAct yX4_isAct [.int a0, .int a1] μ (oI t) :=
  gm_of (J := J_X4_isAct) (k := kI) rfl (by decide) (Nat.le_of_ble_eq_true rfl) (v_X4_isAct G a0 a1 μ) ht rfl
set_option maxRecDepth 100000 in
set_option maxHeartbeats 4000000 in
theorem vlp_X4_areActs_2 (G : GG) (r0v : Nat) (hr0v : isO r0v 2) (x1v : Int32) (x2v : Int32) (kk : ((Mem) ⊕ (Int32 × Mem)) → Option Oc) (hx : ∀ (μ : Mem), V G J_X4_areActs 43 [] [] μ (kk (.inl μ)) some) (ho : ∀ t, kk (.inr t) = some (oI t)) : ∀ (n : Nat) (x3v : Int32) (μ : Mem), V G J_X4_areActs 2 [(0, .ref (G.2.1 r0v)), (1, .int x1v), (2, .int x2v), (3, .int x3v)] [] μ (lp_X4_areActs_2 r0v x1v x2v n x3v μ) kk := by
  intro n
  induction n with
  | zero => intro _ _; exact v_none
  | succ n ih =>
    intro x3v μ
    rw [lp_X4_areActs_2]
    refine v_iload_n (n := 3) dX4_areActs_2 rfl 3 rfl rfl ?_
    refine v_iload_n (n := 4) dX4_areActs_3 rfl 2 rfl rfl ?_
    refine v_icmp_ge (tgt := 43) (n := 7) dX4_areActs_4 (by decide) rfl ?_ ?_
    · exact v_leaf (v_sub [] rfl (hx  μ))
    · refine v_aload_n (n := 8) dX4_areActs_7 rfl 0 rfl rfl ?_
      refine v_getR (n := 11) (i := 0) (q2 := (r0v + 1)) dX4_areActs_8 hr0v rfl fg_X4_217 rfl ?_
      refine v_iload_n (n := 12) dX4_areActs_11 rfl 1 rfl rfl ?_
      refine v_iconst (n := 13) (v := 2) dX4_areActs_12 ci_2 rfl ?_
      refine v_iload_n (n := 14) dX4_areActs_13 rfl 3 rfl rfl ?_
      refine v_imul (n := 15) dX4_areActs_14 rfl ?_
      refine v_iadd (n := 16) dX4_areActs_15 rfl ?_
      refine v_iald (n := 17) dX4_areActs_16 (ar2_0 hr0v) rfl ?_
      refine v_aload_n (n := 18) dX4_areActs_17 rfl 0 rfl rfl ?_
      refine v_getR (n := 21) (i := 0) (q2 := (r0v + 1)) dX4_areActs_18 hr0v rfl fg_X4_217 rfl ?_
      refine v_iload_n (n := 22) dX4_areActs_21 rfl 1 rfl rfl ?_
      refine v_iconst (n := 23) (v := 2) dX4_areActs_22 ci_2 rfl ?_
      refine v_iload_n (n := 24) dX4_areActs_23 rfl 3 rfl rfl ?_
      refine v_imul (n := 25) dX4_areActs_24 rfl ?_
      refine v_iadd (n := 26) dX4_areActs_25 rfl ?_
      refine v_iconst (n := 27) (v := 1) dX4_areActs_26 ci_1 rfl ?_
      refine v_iadd (n := 28) dX4_areActs_27 rfl ?_
      refine v_iald (n := 29) dX4_areActs_28 (ar2_0 hr0v) rfl ?_
      refine v_cSi (n := 32) (st := []) [.int (μ (r0v + 1) (x1v + ((2 : Int32) * x3v)).toNatClampNeg), .int (μ (r0v + 1) ((x1v + ((2 : Int32) * x3v)) + (1 : Int32)).toNatClampNeg)] dX4_areActs_29 (fun t ht => M_X4_isAct G (μ (r0v + 1) (x1v + ((2 : Int32) * x3v)).toNatClampNeg) (μ (r0v + 1) ((x1v + ((2 : Int32) * x3v)) + (1 : Int32)).toNatClampNeg) μ t ht) cal_X4_isAct mw116 rfl rfl (Nat.le_of_ble_eq_true rfl) ⟨Nat.le_of_ble_eq_true rfl, Nat.le_of_ble_eq_true rfl⟩ rfl (fun x2 μ1 => ?_)
      refine v_if_ne (tgt := 37) (n := 35) dX4_areActs_32 (by decide) rfl ?_ ?_
      · refine v_iconst (n := 36) (v := 0) dX4_areActs_35 ci_0 rfl ?_
        exact v_zret dX4_areActs_36 rfl (by decide) (ho _)
      · refine v_iinc (n := 40) (w := 1) (fun x3 => [(3, .int x3), (0, .ref (G.2.1 r0v)), (1, .int x1v), (2, .int x2v)]) dX4_areActs_37 3 rfl ci_1 (by decide) (fun _ => rfl) rfl (fun x3 => ?_)
        refine v_goto (tgt := 2) dX4_areActs_40 (by decide) ?_
        exact v_sub [1, 2, 3, 0] rfl (ih x3 μ1)
set_option maxRecDepth 100000 in
set_option maxHeartbeats 4000000 in
theorem v_X4_areActs (G : GG) (q0 : Nat) (hq0 : isO q0 2) (a1 : Int32) (a2 : Int32) (μ : Mem) : V G J_X4_areActs 0 [(0, .ref (G.2.1 q0)), (1, .int a1), (2, .int a2)] [] μ (f_X4_areActs q0 a1 a2 μ) kI := by
  rw [f_X4_areActs]
  refine v_iconst (n := 1) (v := 0) dX4_areActs_0 ci_0 rfl ?_
  refine v_istore_n (n := 2) [(3, .int (0 : Int32)), (0, .ref (G.2.1 q0)), (1, .int a1), (2, .int a2)] dX4_areActs_1 rfl (by decide) rfl rfl ?_
  refine v_sub [1, 2, 3, 0] rfl ?_
  refine v_s1 (px := 43) (lx := (fun μ4 => [])) (mx := (fun μ4 => μ4)) (oX := oI) (fun kk hx ho => vlp_X4_areActs_2 G q0 hq0 a1 a2 kk hx ho FU (0 : Int32) μ) (fun _ => rfl) (fun μ4 => ?_)
  refine v_iconst (n := 44) (v := 1) dX4_areActs_43 ci_1 rfl ?_
  exact v_zret dX4_areActs_44 rfl (by decide) rfl
theorem M_X4_areActs (G : GG) (q0 : Nat) (hq0 : isO q0 2) (a1 : Int32) (a2 : Int32) (μ : Mem) (t : Int32 × Mem) (ht : f_X4_areActs q0 a1 a2 μ = some t) : GM G J_X4_areActs yX4_areActs [.ref (G.2.1 q0), .int a1, .int a2] μ (oI t) :=
  gm_of (J := J_X4_areActs) (k := kI) rfl (by decide) (Nat.le_of_ble_eq_true rfl) (v_X4_areActs G q0 hq0 a1 a2 μ) ht rfl
set_option maxRecDepth 100000 in
set_option maxHeartbeats 4000000 in
theorem v_X1_takeAct (G : GG) (q0 : Nat) (hq0 : isO q0 1) (a1 : Int32) (a2 : Int32) (μ : Mem) : V G J_X1_takeAct 0 [(0, .ref (G.2.1 q0)), (1, .int a1), (2, .int a2)] [] μ (f_X1_takeAct q0 a1 a2 μ) kI := by
  rw [f_X1_takeAct]
  refine v_iload_n (n := 1) dX1_takeAct_0 rfl 2 rfl rfl ?_
  refine v_bipush (n := 3) (v := 20) dX1_takeAct_1 cb_20 rfl ?_
  refine v_icmp_lt (tgt := 17) (n := 6) dX1_takeAct_3 (by decide) rfl ?_ ?_
  · refine v_iload_n (n := 18) dX1_takeAct_17 rfl 2 rfl rfl ?_
    refine v_bipush (n := 20) (v := 10) dX1_takeAct_18 cb_10 rfl ?_
    refine v_icmp_lt (tgt := 48) (n := 23) dX1_takeAct_20 (by decide) rfl ?_ ?_
    · refine v_aload_n (n := 49) dX1_takeAct_48 rfl 0 rfl rfl ?_
      refine v_iload_n (n := 50) dX1_takeAct_49 rfl 2 rfl rfl ?_
      refine v_cVi (n := 53) (st := []) [.int a2] dX1_takeAct_50 (fun t ht => M_X1_hasLeft G q0 hq0 a2 μ t ht) cal_X1_hasLeft mw50 hq0 rfl rfl (Nat.le_of_ble_eq_true rfl) ⟨Nat.le_of_ble_eq_true rfl, Nat.le_of_ble_eq_true rfl⟩ rfl (fun x2 μ1 => ?_)
      refine v_if_ne (tgt := 58) (n := 56) dX1_takeAct_53 (by decide) rfl ?_ ?_
      · refine v_iconst (n := 57) (v := 0) dX1_takeAct_56 ci_0 rfl ?_
        exact v_zret dX1_takeAct_57 rfl (by decide) rfl
      · refine v_aload_n (n := 59) dX1_takeAct_58 rfl 0 rfl rfl ?_
        refine v_getR (n := 62) (i := 1) (q2 := (q0 + 2)) dX1_takeAct_59 hq0 rfl fg_X1_15 rfl ?_
        refine v_iload_n (n := 63) dX1_takeAct_62 rfl 2 rfl rfl ?_
        refine v_iload_n (n := 64) dX1_takeAct_63 rfl 1 rfl rfl ?_
        refine v_iast (n := 65) dX1_takeAct_64 (ar1_1 hq0) rfl ?_
        refine v_lm (fun μ3 => ?_)
        refine v_iconst (n := 66) (v := 1) dX1_takeAct_65 ci_1 rfl ?_
        exact v_zret dX1_takeAct_66 rfl (by decide) rfl
    · refine v_aload_n (n := 24) dX1_takeAct_23 rfl 0 rfl rfl ?_
      refine v_iload_n (n := 25) dX1_takeAct_24 rfl 2 rfl rfl ?_
      refine v_bipush (n := 27) (v := 10) dX1_takeAct_25 cb_10 rfl ?_
      refine v_isub (n := 28) dX1_takeAct_27 rfl ?_
      refine v_cVi (n := 31) (st := []) [.int (a2 - (10 : Int32))] dX1_takeAct_28 (fun t ht => M_X1_hasRight G q0 hq0 (a2 - (10 : Int32)) μ t ht) cal_X1_hasRight mw49 hq0 rfl rfl (Nat.le_of_ble_eq_true rfl) ⟨Nat.le_of_ble_eq_true rfl, Nat.le_of_ble_eq_true rfl⟩ rfl (fun x5 μ4 => ?_)
      refine v_if_ne (tgt := 36) (n := 34) dX1_takeAct_31 (by decide) rfl ?_ ?_
      · refine v_iconst (n := 35) (v := 0) dX1_takeAct_34 ci_0 rfl ?_
        exact v_zret dX1_takeAct_35 rfl (by decide) rfl
      · refine v_aload_n (n := 37) dX1_takeAct_36 rfl 0 rfl rfl ?_
        refine v_getR (n := 40) (i := 3) (q2 := (q0 + 4)) dX1_takeAct_37 hq0 rfl fg_X1_21 rfl ?_
        refine v_iload_n (n := 41) dX1_takeAct_40 rfl 2 rfl rfl ?_
        refine v_bipush (n := 43) (v := 10) dX1_takeAct_41 cb_10 rfl ?_
        refine v_isub (n := 44) dX1_takeAct_43 rfl ?_
        refine v_iload_n (n := 45) dX1_takeAct_44 rfl 1 rfl rfl ?_
        refine v_iast (n := 46) dX1_takeAct_45 (ar1_3 hq0) rfl ?_
        refine v_lm (fun μ6 => ?_)
        refine v_iconst (n := 47) (v := 1) dX1_takeAct_46 ci_1 rfl ?_
        exact v_zret dX1_takeAct_47 rfl (by decide) rfl
  · refine v_aload_n (n := 7) dX1_takeAct_6 rfl 0 rfl rfl ?_
    refine v_iload_n (n := 8) dX1_takeAct_7 rfl 2 rfl rfl ?_
    refine v_bipush (n := 10) (v := 20) dX1_takeAct_8 cb_20 rfl ?_
    refine v_isub (n := 11) dX1_takeAct_10 rfl ?_
    refine v_iload_n (n := 12) dX1_takeAct_11 rfl 1 rfl rfl ?_
    refine v_cVv (n := 15) (st := []) [.int (a2 - (20 : Int32)), .int a1] dX1_takeAct_12 (fun t ht => M_X1_setPrice G q0 hq0 (a2 - (20 : Int32)) a1 μ t ht) cal_X1_setPrice mw117 hq0 rfl rfl (Nat.le_of_ble_eq_true rfl) ⟨Nat.le_of_ble_eq_true rfl, Nat.le_of_ble_eq_true rfl⟩ rfl (fun μ7 => ?_)
    refine v_iconst (n := 16) (v := 1) dX1_takeAct_15 ci_1 rfl ?_
    exact v_zret dX1_takeAct_16 rfl (by decide) rfl
theorem M_X1_takeAct (G : GG) (q0 : Nat) (hq0 : isO q0 1) (a1 : Int32) (a2 : Int32) (μ : Mem) (t : Int32 × Mem) (ht : f_X1_takeAct q0 a1 a2 μ = some t) : GM G J_X1_takeAct yX1_takeAct [.ref (G.2.1 q0), .int a1, .int a2] μ (oI t) :=
  gm_of (J := J_X1_takeAct) (k := kI) rfl (by decide) (Nat.le_of_ble_eq_true rfl) (v_X1_takeAct G q0 hq0 a1 a2 μ) ht rfl
set_option maxRecDepth 100000 in
set_option maxHeartbeats 4000000 in
theorem vlp_X4_supposeDay_14 (G : GG) (r1v : Nat) (hr1v : isO r1v 2) (x2v : Int32) (x3v : Int32) (kk : ((Mem) ⊕ (Int32 × Mem)) → Option Oc) (hx : ∀ (μ : Mem), V G J_X4_supposeDay 63 [] [] μ (kk (.inl μ)) some) (ho : ∀ t, kk (.inr t) = some (oI t)) : ∀ (n : Nat) (x4v : Int32) (μ : Mem), V G J_X4_supposeDay 14 [(0, .ref (G.2.1 0)), (1, .ref (G.2.1 r1v)), (2, .int x2v), (3, .int x3v), (4, .int x4v)] [] μ (lp_X4_supposeDay_14 r1v x2v x3v n x4v μ) kk := by
  intro n
  induction n with
  | zero => intro _ _; exact v_none
  | succ n ih =>
    intro x4v μ
    rw [lp_X4_supposeDay_14]
    refine v_iload (n := 16) dX4_supposeDay_14 4 rfl rfl ?_
    refine v_iload_n (n := 17) dX4_supposeDay_16 rfl 3 rfl rfl ?_
    refine v_icmp_ge (tgt := 63) (n := 20) dX4_supposeDay_17 (by decide) rfl ?_ ?_
    · exact v_leaf (v_sub [] rfl (hx  μ))
    · refine v_aload_n (n := 21) dX4_supposeDay_20 rfl 0 rfl rfl ?_
      refine v_getR (n := 24) (i := 2) (q2 := 8) dX4_supposeDay_21 (show isO 0 4 from rfl) rfl fg_X4_24 rfl ?_
      refine v_aload_n (n := 25) dX4_supposeDay_24 rfl 1 rfl rfl ?_
      refine v_getR (n := 28) (i := 0) (q2 := (r1v + 1)) dX4_supposeDay_25 hr1v rfl fg_X4_217 rfl ?_
      refine v_iload_n (n := 29) dX4_supposeDay_28 rfl 2 rfl rfl ?_
      refine v_iconst (n := 30) (v := 2) dX4_supposeDay_29 ci_2 rfl ?_
      refine v_iload (n := 32) dX4_supposeDay_30 4 rfl rfl ?_
      refine v_imul (n := 33) dX4_supposeDay_32 rfl ?_
      refine v_iadd (n := 34) dX4_supposeDay_33 rfl ?_
      refine v_iald (n := 35) dX4_supposeDay_34 (ar2_0 hr1v) rfl ?_
      refine v_aload_n (n := 36) dX4_supposeDay_35 rfl 1 rfl rfl ?_
      refine v_getR (n := 39) (i := 0) (q2 := (r1v + 1)) dX4_supposeDay_36 hr1v rfl fg_X4_217 rfl ?_
      refine v_iload_n (n := 40) dX4_supposeDay_39 rfl 2 rfl rfl ?_
      refine v_iconst (n := 41) (v := 2) dX4_supposeDay_40 ci_2 rfl ?_
      refine v_iload (n := 43) dX4_supposeDay_41 4 rfl rfl ?_
      refine v_imul (n := 44) dX4_supposeDay_43 rfl ?_
      refine v_iadd (n := 45) dX4_supposeDay_44 rfl ?_
      refine v_iconst (n := 46) (v := 1) dX4_supposeDay_45 ci_1 rfl ?_
      refine v_iadd (n := 47) dX4_supposeDay_46 rfl ?_
      refine v_iald (n := 48) dX4_supposeDay_47 (ar2_0 hr1v) rfl ?_
      refine v_cVi (n := 51) (st := []) [.int (μ (r1v + 1) (x2v + ((2 : Int32) * x4v)).toNatClampNeg), .int (μ (r1v + 1) ((x2v + ((2 : Int32) * x4v)) + (1 : Int32)).toNatClampNeg)] dX4_supposeDay_48 (fun t ht => M_X1_takeAct G 8 (show isO 8 1 from rfl) (μ (r1v + 1) (x2v + ((2 : Int32) * x4v)).toNatClampNeg) (μ (r1v + 1) ((x2v + ((2 : Int32) * x4v)) + (1 : Int32)).toNatClampNeg) μ t ht) cal_X1_takeAct mw118 (show isO 8 1 from rfl) rfl rfl (Nat.le_of_ble_eq_true rfl) ⟨Nat.le_of_ble_eq_true rfl, Nat.le_of_ble_eq_true rfl⟩ rfl (fun x3 μ2 => ?_)
      refine v_if_ne (tgt := 57) (n := 54) dX4_supposeDay_51 (by decide) rfl ?_ ?_
      · refine v_iload (n := 56) dX4_supposeDay_54 4 rfl rfl ?_
        exact v_iret dX4_supposeDay_56 rfl (ho _)
      · refine v_iinc (n := 60) (w := 1) (fun x4 => [(4, .int x4), (0, .ref (G.2.1 0)), (1, .ref (G.2.1 r1v)), (2, .int x2v), (3, .int x3v)]) dX4_supposeDay_57 4 rfl ci_1 (by decide) (fun _ => rfl) rfl (fun x4 => ?_)
        refine v_goto (tgt := 14) dX4_supposeDay_60 (by decide) ?_
        exact v_sub [1, 2, 3, 4, 0] rfl (ih x4 μ2)
set_option maxRecDepth 100000 in
set_option maxHeartbeats 4000000 in
theorem v_X4_supposeDay (G : GG) (q1 : Nat) (hq1 : isO q1 2) (a2 : Int32) (a3 : Int32) (μ : Mem) : V G J_X4_supposeDay 0 [(0, .ref (G.2.1 0)), (1, .ref (G.2.1 q1)), (2, .int a2), (3, .int a3)] [] μ (f_X4_supposeDay q1 a2 a3 μ) kI := by
  rw [f_X4_supposeDay]
  refine v_aload_n (n := 1) dX4_supposeDay_0 rfl 0 rfl rfl ?_
  refine v_getR (n := 4) (i := 2) (q2 := 8) dX4_supposeDay_1 (show isO 0 4 from rfl) rfl fg_X4_24 rfl ?_
  refine v_aload_n (n := 5) dX4_supposeDay_4 rfl 0 rfl rfl ?_
  refine v_getR (n := 8) (i := 1) (q2 := 2) dX4_supposeDay_5 (show isO 0 4 from rfl) rfl fg_X4_20 rfl ?_
  refine v_cVv (n := 11) (st := []) [.ref (G.2.1 2)] dX4_supposeDay_8 (fun t ht => M_X1_becomeLike G 8 (show isO 8 1 from rfl) 2 (show isO 2 1 from rfl) μ t ht) cal_X1_becomeLike mw42 (show isO 8 1 from rfl) rfl rfl (Nat.le_of_ble_eq_true rfl) ⟨Nat.le_of_ble_eq_true rfl, Nat.le_of_ble_eq_true rfl⟩ rfl (fun μ1 => ?_)
  refine v_iconst (n := 12) (v := 0) dX4_supposeDay_11 ci_0 rfl ?_
  refine v_istore (n := 14) [(4, .int (0 : Int32)), (0, .ref (G.2.1 0)), (1, .ref (G.2.1 q1)), (2, .int a2), (3, .int a3)] dX4_supposeDay_12 (by decide) rfl rfl ?_
  refine v_sub [1, 2, 3, 4, 0] rfl ?_
  refine v_s1 (px := 63) (lx := (fun μ5 => [])) (mx := (fun μ5 => μ5)) (oX := oI) (fun kk hx ho => vlp_X4_supposeDay_14 G q1 hq1 a2 a3 kk hx ho FU (0 : Int32) μ1) (fun _ => rfl) (fun μ5 => ?_)
  refine v_bipush (n := 65) (v := -9) dX4_supposeDay_63 cb_m9 rfl ?_
  exact v_iret dX4_supposeDay_65 rfl rfl
theorem M_X4_supposeDay (G : GG) (q1 : Nat) (hq1 : isO q1 2) (a2 : Int32) (a3 : Int32) (μ : Mem) (t : Int32 × Mem) (ht : f_X4_supposeDay q1 a2 a3 μ = some t) : GM G J_X4_supposeDay yX4_supposeDay [.ref (G.2.1 0), .ref (G.2.1 q1), .int a2, .int a3] μ (oI t) :=
  gm_of (J := J_X4_supposeDay) (k := kI) rfl (by decide) (Nat.le_of_ble_eq_true rfl) (v_X4_supposeDay G q1 hq1 a2 a3 μ) ht rfl
set_option maxRecDepth 100000 in
set_option maxHeartbeats 4000000 in
theorem vjn_X4_answerOfDay_41 (G : GG) (x2v : Int32) (μ : Mem) : V G J_X4_answerOfDay 41 [(0, .ref (G.2.1 0)), (2, .int x2v)] [] μ (jn_X4_answerOfDay_41 x2v μ) kI := by
  rw [jn_X4_answerOfDay_41]
  refine v_aload_n (n := 42) dX4_answerOfDay_41 rfl 0 rfl rfl ?_
  refine v_getR (n := 45) (i := 4) (q2 := 23) dX4_answerOfDay_42 (show isO 0 4 from rfl) rfl fg_X4_34 rfl ?_
  refine v_aload_n (n := 46) dX4_answerOfDay_45 rfl 0 rfl rfl ?_
  refine v_getR (n := 49) (i := 2) (q2 := 8) dX4_answerOfDay_46 (show isO 0 4 from rfl) rfl fg_X4_24 rfl ?_
  refine v_cVv (n := 52) (st := []) [.ref (G.2.1 8)] dX4_answerOfDay_49 (fun t ht => M_X0_align G 23 (show isO 23 0 from rfl) 8 (show isO 8 1 from rfl) μ t ht) cal_X0_align mw86 (show isO 23 0 from rfl) rfl rfl (Nat.le_of_ble_eq_true rfl) ⟨Nat.le_of_ble_eq_true rfl, Nat.le_of_ble_eq_true rfl⟩ rfl (fun μ1 => ?_)
  refine v_iload_n (n := 53) dX4_answerOfDay_52 rfl 1 rfl rfl ?_
  refine v_bipush (n := 55) (v := 10) dX4_answerOfDay_53 cb_10 rfl ?_
  refine v_icmp_lt (tgt := 70) (n := 58) dX4_answerOfDay_55 (by decide) rfl ?_ ?_
  · refine v_aload_n (n := 71) dX4_answerOfDay_70 rfl 0 rfl rfl ?_
    refine v_getR (n := 74) (i := 4) (q2 := 23) dX4_answerOfDay_71 (show isO 0 4 from rfl) rfl fg_X4_34 rfl ?_
    refine v_iload_n (n := 75) dX4_answerOfDay_74 rfl 1 rfl rfl ?_
    refine v_if_ne (tgt := 82) (n := 78) dX4_answerOfDay_75 (by decide) rfl ?_ ?_
    · refine v_iconst (n := 79) (v := 0) dX4_answerOfDay_78 ci_0 rfl ?_
      refine v_goto (tgt := 85) dX4_answerOfDay_79 (by decide) ?_
      refine v_cVi (n := 88) (st := []) [.int (0 : Int32)] dX4_answerOfDay_85 (fun t ht => M_X0_answer G 23 (show isO 23 0 from rfl) (0 : Int32) μ1 t ht) cal_X0_answer mw106 (show isO 23 0 from rfl) rfl rfl (Nat.le_of_ble_eq_true rfl) ⟨Nat.le_of_ble_eq_true rfl, Nat.le_of_ble_eq_true rfl⟩ rfl (fun x5 μ4 => ?_)
      exact v_iret dX4_answerOfDay_88 rfl rfl
    · refine v_iload_n (n := 83) dX4_answerOfDay_82 rfl 1 rfl rfl ?_
      refine v_iconst (n := 84) (v := 1) dX4_answerOfDay_83 ci_1 rfl ?_
      refine v_isub (n := 85) dX4_answerOfDay_84 rfl ?_
      refine v_cVi (n := 88) (st := []) [.int (x2v - (1 : Int32))] dX4_answerOfDay_85 (fun t ht => M_X0_answer G 23 (show isO 23 0 from rfl) (x2v - (1 : Int32)) μ1 t ht) cal_X0_answer mw106 (show isO 23 0 from rfl) rfl rfl (Nat.le_of_ble_eq_true rfl) ⟨Nat.le_of_ble_eq_true rfl, Nat.le_of_ble_eq_true rfl⟩ rfl (fun x3 μ2 => ?_)
      exact v_iret dX4_answerOfDay_88 rfl rfl
  · refine v_aload_n (n := 59) dX4_answerOfDay_58 rfl 0 rfl rfl ?_
    refine v_getR (n := 62) (i := 4) (q2 := 23) dX4_answerOfDay_59 (show isO 0 4 from rfl) rfl fg_X4_34 rfl ?_
    refine v_iload_n (n := 63) dX4_answerOfDay_62 rfl 1 rfl rfl ?_
    refine v_bipush (n := 65) (v := 10) dX4_answerOfDay_63 cb_10 rfl ?_
    refine v_isub (n := 66) dX4_answerOfDay_65 rfl ?_
    refine v_cVi (n := 69) (st := []) [.int (x2v - (10 : Int32))] dX4_answerOfDay_66 (fun t ht => M_X0_rightsWith G 23 (show isO 23 0 from rfl) (x2v - (10 : Int32)) μ1 t ht) cal_X0_rightsWith mw95 (show isO 23 0 from rfl) rfl rfl (Nat.le_of_ble_eq_true rfl) ⟨Nat.le_of_ble_eq_true rfl, Nat.le_of_ble_eq_true rfl⟩ rfl (fun x7 μ6 => ?_)
    exact v_iret dX4_answerOfDay_69 rfl rfl
set_option maxRecDepth 100000 in
set_option maxHeartbeats 4000000 in
theorem v_X4_answerOfDay (G : GG) (a1 : Int32) (a2 : Int32) (μ : Mem) : V G J_X4_answerOfDay 0 [(0, .ref (G.2.1 0)), (1, .int a1), (2, .int a2)] [] μ (f_X4_answerOfDay a1 a2 μ) kI := by
  rw [f_X4_answerOfDay]
  refine v_iload_n (n := 1) dX4_answerOfDay_0 rfl 2 rfl rfl ?_
  refine v_iconst (n := 2) (v := 1) dX4_answerOfDay_1 ci_1 rfl ?_
  refine v_icmp_ne (tgt := 7) (n := 5) dX4_answerOfDay_2 (by decide) rfl ?_ ?_
  · refine v_iload_n (n := 6) dX4_answerOfDay_5 rfl 1 rfl rfl ?_
    exact v_iret dX4_answerOfDay_6 rfl rfl
  · refine v_iload_n (n := 8) dX4_answerOfDay_7 rfl 1 rfl rfl ?_
    refine v_bipush (n := 10) (v := -9) dX4_answerOfDay_8 cb_m9 rfl ?_
    refine v_icmp_eq (tgt := 18) (n := 13) dX4_answerOfDay_10 (by decide) rfl ?_ ?_
    · refine v_iload_n (n := 19) dX4_answerOfDay_18 rfl 2 rfl rfl ?_
      refine v_bipush (n := 21) (v := 10) dX4_answerOfDay_19 cb_10 rfl ?_
      refine v_icmp_lt (tgt := 41) (n := 24) dX4_answerOfDay_21 (by decide) rfl ?_ ?_
      · exact v_sub [0, 2] rfl (vjn_X4_answerOfDay_41 G a2 μ)
      · refine v_aload_n (n := 25) dX4_answerOfDay_24 rfl 0 rfl rfl ?_
        refine v_getR (n := 28) (i := 2) (q2 := 8) dX4_answerOfDay_25 (show isO 0 4 from rfl) rfl fg_X4_24 rfl ?_
        refine v_iload_n (n := 29) dX4_answerOfDay_28 rfl 2 rfl rfl ?_
        refine v_bipush (n := 31) (v := 10) dX4_answerOfDay_29 cb_10 rfl ?_
        refine v_isub (n := 32) dX4_answerOfDay_31 rfl ?_
        refine v_cVi (n := 35) (st := []) [.int (a2 - (10 : Int32))] dX4_answerOfDay_32 (fun t ht => M_X1_hasLeft G 8 (show isO 8 1 from rfl) (a2 - (10 : Int32)) μ t ht) cal_X1_hasLeft mw89 (show isO 8 1 from rfl) rfl rfl (Nat.le_of_ble_eq_true rfl) ⟨Nat.le_of_ble_eq_true rfl, Nat.le_of_ble_eq_true rfl⟩ rfl (fun x9 μ8 => ?_)
        refine v_if_ne (tgt := 41) (n := 38) dX4_answerOfDay_35 (by decide) rfl ?_ ?_
        · refine v_bipush (n := 40) (v := -9) dX4_answerOfDay_38 cb_m9 rfl ?_
          exact v_iret dX4_answerOfDay_40 rfl rfl
        · exact v_sub [0, 2] rfl (vjn_X4_answerOfDay_41 G a2 μ8)
    · refine v_bipush (n := 15) (v := -100) dX4_answerOfDay_13 cb_m100 rfl ?_
      refine v_iload_n (n := 16) dX4_answerOfDay_15 rfl 1 rfl rfl ?_
      refine v_isub (n := 17) dX4_answerOfDay_16 rfl ?_
      exact v_iret dX4_answerOfDay_17 rfl rfl
theorem M_X4_answerOfDay (G : GG) (a1 : Int32) (a2 : Int32) (μ : Mem) (t : Int32 × Mem) (ht : f_X4_answerOfDay a1 a2 μ = some t) : GM G J_X4_answerOfDay yX4_answerOfDay [.ref (G.2.1 0), .int a1, .int a2] μ (oI t) :=
  gm_of (J := J_X4_answerOfDay) (k := kI) rfl (by decide) (Nat.le_of_ble_eq_true rfl) (v_X4_answerOfDay G a1 a2 μ) ht rfl
set_option maxRecDepth 100000 in
set_option maxHeartbeats 4000000 in
theorem vjn_X4_day_81 (G : GG) (x3v : Int32) (x4v : Int32) (x5v : Int32) (r6v : Nat) (hr6v : isO r6v 2) (x7v : Int32) (μ : Mem) : V G J_X4_day 81 [(0, .ref (G.2.1 0)), (3, .int x3v), (4, .int x4v), (5, .int x5v), (6, .ref (G.2.1 r6v)), (7, .int x7v)] [] μ (jn_X4_day_81 x3v x4v x5v r6v x7v μ) kI := by
  rw [jn_X4_day_81]
  refine v_iload (n := 83) dX4_day_81 5 rfl rfl ?_
  refine v_if_eq (tgt := 93) (n := 86) dX4_day_83 (by decide) rfl ?_ ?_
  · refine v_aload_n (n := 94) dX4_day_93 rfl 0 rfl rfl ?_
    refine v_getR (n := 97) (i := 1) (q2 := 2) dX4_day_94 (show isO 0 4 from rfl) rfl fg_X4_20 rfl ?_
    refine v_cVi (n := 100) (st := []) [] dX4_day_97 (fun t ht => M_X1_areThere G 2 (show isO 2 1 from rfl) μ t ht) cal_X1_areThere mw101 (show isO 2 1 from rfl) rfl rfl (Nat.le_of_ble_eq_true rfl) ⟨Nat.le_of_ble_eq_true rfl, Nat.le_of_ble_eq_true rfl⟩ rfl (fun x12 μ11 => ?_)
    refine v_if_ne (tgt := 106) (n := 103) dX4_day_100 (by decide) rfl ?_ ?_
    · refine v_bipush (n := 105) (v := -3) dX4_day_103 cb_m3 rfl ?_
      exact v_iret dX4_day_105 rfl rfl
    · refine v_aload (n := 108) dX4_day_106 4 rfl rfl ?_
      refine v_iload_n (n := 109) dX4_day_108 rfl 1 rfl rfl ?_
      refine v_iload (n := 111) dX4_day_109 2 rfl rfl ?_
      refine v_cSi (n := 114) (st := []) [.ref (G.2.1 r6v), .int x3v, .int x4v] dX4_day_111 (fun t ht => M_X4_areActs G r6v hr6v x3v x4v μ11 t ht) cal_X4_areActs mw121 rfl rfl (Nat.le_of_ble_eq_true rfl) ⟨Nat.le_of_ble_eq_true rfl, Nat.le_of_ble_eq_true rfl⟩ rfl (fun x14 μ13 => ?_)
      refine v_if_ne (tgt := 120) (n := 117) dX4_day_114 (by decide) rfl ?_ ?_
      · refine v_bipush (n := 119) (v := -2) dX4_day_117 cb_m2 rfl ?_
        exact v_iret dX4_day_119 rfl rfl
      · refine v_aload_n (n := 121) dX4_day_120 rfl 0 rfl rfl ?_
        refine v_aload_n (n := 122) dX4_day_121 rfl 0 rfl rfl ?_
        refine v_aload (n := 124) dX4_day_122 4 rfl rfl ?_
        refine v_iload_n (n := 125) dX4_day_124 rfl 1 rfl rfl ?_
        refine v_iload (n := 127) dX4_day_125 2 rfl rfl ?_
        refine v_cVi (n := 130) (st := [.ref (G.2.1 0)]) [.ref (G.2.1 r6v), .int x3v, .int x4v] dX4_day_127 (fun t ht => M_X4_supposeDay G r6v hr6v x3v x4v μ13 t ht) cal_X4_supposeDay mw122 (show isO 0 4 from rfl) rfl rfl (Nat.le_of_ble_eq_true rfl) ⟨Nat.le_of_ble_eq_true rfl, Nat.le_of_ble_eq_true rfl⟩ rfl (fun x16 μ15 => ?_)
        refine v_iload (n := 132) dX4_day_130 3 rfl rfl ?_
        refine v_cVi (n := 135) (st := []) [.int x16, .int x5v] dX4_day_132 (fun t ht => M_X4_answerOfDay G x16 x5v μ15 t ht) cal_X4_answerOfDay mw123 (show isO 0 4 from rfl) rfl rfl (Nat.le_of_ble_eq_true rfl) ⟨Nat.le_of_ble_eq_true rfl, Nat.le_of_ble_eq_true rfl⟩ rfl (fun x18 μ17 => ?_)
        exact v_iret dX4_day_135 rfl rfl
  · refine v_aload_n (n := 87) dX4_day_86 rfl 0 rfl rfl ?_
    refine v_iload (n := 89) dX4_day_87 5 rfl rfl ?_
    refine v_cVi (n := 92) (st := []) [.int x7v] dX4_day_89 (fun t ht => M_X4_failed G x7v μ t ht) cal_X4_failed mw47 (show isO 0 4 from rfl) rfl rfl (Nat.le_of_ble_eq_true rfl) ⟨Nat.le_of_ble_eq_true rfl, Nat.le_of_ble_eq_true rfl⟩ rfl (fun x20 μ19 => ?_)
    exact v_iret dX4_day_92 rfl rfl
set_option maxRecDepth 100000 in
set_option maxHeartbeats 4000000 in
theorem v_X4_day (G : GG) (a1 : Int32) (a2 : Int32) (a3 : Int32) (a4 : Int32) (a5 : Int32) (μ : Mem) : V G J_X4_day 0 [(0, .ref (G.2.1 0)), (1, .int a1), (2, .int a2), (3, .int a3), (4, .int a4), (5, .int a5)] [] μ (f_X4_day a1 a2 a3 a4 a5 μ) kI := by
  rw [f_X4_day]
  refine v_aload_n (n := 1) dX4_day_0 rfl 0 rfl rfl ?_
  refine v_iconst (n := 2) (v := 0) dX4_day_1 ci_0 rfl ?_
  refine v_put (n := 5) (i := 11) dX4_day_2 (show isO 0 4 from rfl) rfl fp_X4_52 rfl rfl rfl ?_
  refine v_lm (fun μ1 => ?_)
  refine v_iload_n (n := 6) dX4_day_5 rfl 1 rfl rfl ?_
  refine v_cSi (n := 9) (st := []) [.int a1] dX4_day_6 (fun t ht => M_X4_isSheet G a1 μ1 t ht) cal_X4_isSheet mw34 rfl rfl (Nat.le_of_ble_eq_true rfl) ⟨Nat.le_of_ble_eq_true rfl, Nat.le_of_ble_eq_true rfl⟩ rfl (fun x3 μ2 => ?_)
  refine v_if_ne (tgt := 14) (n := 12) dX4_day_9 (by decide) rfl ?_ ?_
  · refine v_iconst (n := 13) (v := -1) dX4_day_12 ci_m1 rfl ?_
    exact v_iret dX4_day_13 rfl rfl
  · refine v_iload_n (n := 15) dX4_day_14 rfl 2 rfl rfl ?_
    refine v_cSi (n := 18) (st := []) [.int a2] dX4_day_15 (fun t ht => M_X4_isLane G a2 μ2 t ht) cal_X4_isLane mw35 rfl rfl (Nat.le_of_ble_eq_true rfl) ⟨Nat.le_of_ble_eq_true rfl, Nat.le_of_ble_eq_true rfl⟩ rfl (fun x5 μ4 => ?_)
    refine v_if_eq (tgt := 41) (n := 21) dX4_day_18 (by decide) rfl ?_ ?_
    · refine v_bipush (n := 43) (v := -2) dX4_day_41 cb_m2 rfl ?_
      exact v_iret dX4_day_43 rfl rfl
    · refine v_iload (n := 23) dX4_day_21 4 rfl rfl ?_
      refine v_if_lt (tgt := 41) (n := 26) dX4_day_23 (by decide) rfl ?_ ?_
      · refine v_bipush (n := 43) (v := -2) dX4_day_41 cb_m2 rfl ?_
        exact v_iret dX4_day_43 rfl rfl
      · refine v_iload (n := 28) dX4_day_26 4 rfl rfl ?_
        refine v_bipush (n := 30) (v := 20) dX4_day_28 cb_20 rfl ?_
        refine v_icmp_gt (tgt := 41) (n := 33) dX4_day_30 (by decide) rfl ?_ ?_
        · refine v_bipush (n := 43) (v := -2) dX4_day_41 cb_m2 rfl ?_
          exact v_iret dX4_day_43 rfl rfl
        · refine v_iload (n := 35) dX4_day_33 5 rfl rfl ?_
          refine v_cSi (n := 38) (st := []) [.int a5] dX4_day_35 (fun t ht => M_X4_isAskedOfDay G a5 μ4 t ht) cal_X4_isAskedOfDay mw120 rfl rfl (Nat.le_of_ble_eq_true rfl) ⟨Nat.le_of_ble_eq_true rfl, Nat.le_of_ble_eq_true rfl⟩ rfl (fun x7 μ6 => ?_)
          refine v_if_ne (tgt := 44) (n := 41) dX4_day_38 (by decide) rfl ?_ ?_
          · refine v_bipush (n := 43) (v := -2) dX4_day_41 cb_m2 rfl ?_
            exact v_iret dX4_day_43 rfl rfl
          · refine v_aload_n (n := 45) dX4_day_44 rfl 0 rfl rfl ?_
            refine v_getR (n := 48) (i := 0) (q2 := 1) dX4_day_45 (show isO 0 4 from rfl) rfl fg_X4_13 rfl ?_
            refine v_iload_n (n := 49) dX4_day_48 rfl 1 rfl rfl ?_
            refine v_aald (n := 50) dX4_day_49 rfl (fun q8 hq8 => ?_)
            refine v_astore (n := 52) [(6, .ref (G.2.1 q8)), (0, .ref (G.2.1 0)), (1, .int a1), (2, .int a2), (3, .int a3), (4, .int a4), (5, .int a5)] dX4_day_50 (by decide) rfl rfl ?_
            refine v_aload (n := 54) dX4_day_52 0 rfl rfl ?_
            refine v_iload_n (n := 55) dX4_day_54 rfl 3 rfl rfl ?_
            refine v_cVi (n := 58) (st := []) [.int a2] dX4_day_55 (fun t ht => M_X2_faultAs G q8 hq8 a2 μ6 t ht) cal_X2_faultAs mw37 hq8 rfl rfl (Nat.le_of_ble_eq_true rfl) ⟨Nat.le_of_ble_eq_true rfl, Nat.le_of_ble_eq_true rfl⟩ rfl (fun x10 μ9 => ?_)
            refine v_istore (n := 60) [(7, .int x10), (6, .ref (G.2.1 q8)), (0, .ref (G.2.1 0)), (1, .int a1), (2, .int a2), (3, .int a3), (4, .int a4), (5, .int a5)] dX4_day_58 (by decide) rfl rfl ?_
            refine v_iload (n := 62) dX4_day_60 0 rfl rfl ?_
            refine v_if_ne (tgt := 81) (n := 65) dX4_day_62 (by decide) rfl ?_ ?_
            · refine v_aload (n := 67) dX4_day_65 1 rfl rfl ?_
              refine v_iload_n (n := 68) dX4_day_67 rfl 5 rfl rfl ?_
              refine v_iconst (n := 69) (v := 2) dX4_day_68 ci_2 rfl ?_
              refine v_iload (n := 71) dX4_day_69 6 rfl rfl ?_
              refine v_imul (n := 72) dX4_day_71 rfl ?_
              refine v_cVi (n := 75) (st := []) [.int a3, .int ((2 : Int32) * a4)] dX4_day_72 (fun t ht => M_X2_hasCells G q8 hq8 a3 ((2 : Int32) * a4) μ9 t ht) cal_X2_hasCells mw48 hq8 rfl rfl (Nat.le_of_ble_eq_true rfl) ⟨Nat.le_of_ble_eq_true rfl, Nat.le_of_ble_eq_true rfl⟩ rfl (fun x22 μ21 => ?_)
              refine v_if_ne (tgt := 81) (n := 78) dX4_day_75 (by decide) rfl ?_ ?_
              · refine v_iconst (n := 79) (v := 3) dX4_day_78 ci_3 rfl ?_
                refine v_istore (n := 81) [(7, .int (3 : Int32)), (6, .ref (G.2.1 q8)), (0, .ref (G.2.1 0)), (1, .int a1), (2, .int a2), (3, .int a3), (4, .int a4), (5, .int a5)] dX4_day_79 (by decide) rfl rfl ?_
                exact v_sub [2, 5, 6, 7, 1, 0] rfl (vjn_X4_day_81 G a3 a4 a5 q8 hq8 (3 : Int32) μ21)
              · exact v_sub [2, 5, 6, 7, 1, 0] rfl (vjn_X4_day_81 G a3 a4 a5 q8 hq8 x10 μ21)
            · exact v_sub [2, 5, 6, 7, 1, 0] rfl (vjn_X4_day_81 G a3 a4 a5 q8 hq8 x10 μ9)
theorem M_X4_day (G : GG) (a1 : Int32) (a2 : Int32) (a3 : Int32) (a4 : Int32) (a5 : Int32) (μ : Mem) (t : Int32 × Mem) (ht : f_X4_day a1 a2 a3 a4 a5 μ = some t) : GM G J_X4_day yX4_day [.ref (G.2.1 0), .int a1, .int a2, .int a3, .int a4, .int a5] μ (oI t) :=
  gm_of (J := J_X4_day) (k := kI) rfl (by decide) (Nat.le_of_ble_eq_true rfl) (v_X4_day G a1 a2 a3 a4 a5 μ) ht rfl
