set_option maxRecDepth 100000 in
set_option maxHeartbeats 4000000 in
theorem v_X4_isSheet (G : GG) (a0 : Int32) (μ : Mem) : V G J_X4_isSheet 0 [(0, .int a0)] [] μ (f_X4_isSheet a0 μ) kI := by
  rw [f_X4_isSheet]
  refine v_iload_n (n := 1) dX4_isSheet_0 rfl 0 rfl rfl ?_
  refine v_if_lt (tgt := 13) (n := 4) dX4_isSheet_1 (by decide) rfl ?_ ?_
  · refine v_iconst (n := 14) (v := 0) dX4_isSheet_13 ci_0 rfl ?_
    exact v_zret dX4_isSheet_14 rfl (by decide) rfl
  · refine v_iload_n (n := 5) dX4_isSheet_4 rfl 0 rfl rfl ?_
    refine v_iconst (n := 6) (v := 4) dX4_isSheet_5 ci_4 rfl ?_
    refine v_icmp_ge (tgt := 13) (n := 9) dX4_isSheet_6 (by decide) rfl ?_ ?_
    · refine v_iconst (n := 14) (v := 0) dX4_isSheet_13 ci_0 rfl ?_
      exact v_zret dX4_isSheet_14 rfl (by decide) rfl
    · refine v_iconst (n := 10) (v := 1) dX4_isSheet_9 ci_1 rfl ?_
      refine v_goto (tgt := 14) dX4_isSheet_10 (by decide) ?_
      exact v_zret dX4_isSheet_14 rfl (by decide) rfl
theorem M_X4_isSheet (G : GG) (a0 : Int32) (μ : Mem) (t : Int32 × Mem) (ht : f_X4_isSheet a0 μ = some t) : GM G J_X4_isSheet yX4_isSheet [.int a0] μ (oI t) :=
  gm_of (J := J_X4_isSheet) (k := kI) rfl (by decide) (Nat.le_of_ble_eq_true rfl) (v_X4_isSheet G a0 μ) ht rfl
set_option maxRecDepth 100000 in
set_option maxHeartbeats 4000000 in
theorem v_X4_isLane (G : GG) (a0 : Int32) (μ : Mem) : V G J_X4_isLane 0 [(0, .int a0)] [] μ (f_X4_isLane a0 μ) kI := by
  rw [f_X4_isLane]
  refine v_iload_n (n := 1) dX4_isLane_0 rfl 0 rfl rfl ?_
  refine v_if_lt (tgt := 13) (n := 4) dX4_isLane_1 (by decide) rfl ?_ ?_
  · refine v_iconst (n := 14) (v := 0) dX4_isLane_13 ci_0 rfl ?_
    exact v_zret dX4_isLane_14 rfl (by decide) rfl
  · refine v_iload_n (n := 5) dX4_isLane_4 rfl 0 rfl rfl ?_
    refine v_iconst (n := 6) (v := 3) dX4_isLane_5 ci_3 rfl ?_
    refine v_icmp_ge (tgt := 13) (n := 9) dX4_isLane_6 (by decide) rfl ?_ ?_
    · refine v_iconst (n := 14) (v := 0) dX4_isLane_13 ci_0 rfl ?_
      exact v_zret dX4_isLane_14 rfl (by decide) rfl
    · refine v_iconst (n := 10) (v := 1) dX4_isLane_9 ci_1 rfl ?_
      refine v_goto (tgt := 14) dX4_isLane_10 (by decide) ?_
      exact v_zret dX4_isLane_14 rfl (by decide) rfl
theorem M_X4_isLane (G : GG) (a0 : Int32) (μ : Mem) (t : Int32 × Mem) (ht : f_X4_isLane a0 μ = some t) : GM G J_X4_isLane yX4_isLane [.int a0] μ (oI t) :=
  gm_of (J := J_X4_isLane) (k := kI) rfl (by decide) (Nat.le_of_ble_eq_true rfl) (v_X4_isLane G a0 μ) ht rfl
set_option maxRecDepth 100000 in
set_option maxHeartbeats 4000000 in
theorem v_X2_faultAs (G : GG) (q0 : Nat) (hq0 : isO q0 2) (a1 : Int32) (μ : Mem) : V G J_X2_faultAs 0 [(0, .ref (G.2.1 q0)), (1, .int a1)] [] μ (f_X2_faultAs q0 a1 μ) kI := by
  rw [f_X2_faultAs]
  refine v_aload_n (n := 1) dX2_faultAs_0 rfl 0 rfl rfl ?_
  refine v_getI (n := 4) (i := 1) dX2_faultAs_1 hq0 rfl fg_X2_15 rfl ?_
  refine v_if_ne (tgt := 9) (n := 7) dX2_faultAs_4 (by decide) rfl ?_ ?_
  · refine v_iconst (n := 8) (v := 1) dX2_faultAs_7 ci_1 rfl ?_
    exact v_iret dX2_faultAs_8 rfl rfl
  · refine v_aload_n (n := 10) dX2_faultAs_9 rfl 0 rfl rfl ?_
    refine v_getI (n := 13) (i := 2) dX2_faultAs_10 hq0 rfl fg_X2_19 rfl ?_
    refine v_iload_n (n := 14) dX2_faultAs_13 rfl 1 rfl rfl ?_
    refine v_icmp_ne (tgt := 21) (n := 17) dX2_faultAs_14 (by decide) rfl ?_ ?_
    · refine v_iconst (n := 18) (v := 0) dX2_faultAs_17 ci_0 rfl ?_
      refine v_goto (tgt := 22) dX2_faultAs_18 (by decide) ?_
      exact v_iret dX2_faultAs_22 rfl rfl
    · refine v_iconst (n := 22) (v := 2) dX2_faultAs_21 ci_2 rfl ?_
      exact v_iret dX2_faultAs_22 rfl rfl
theorem M_X2_faultAs (G : GG) (q0 : Nat) (hq0 : isO q0 2) (a1 : Int32) (μ : Mem) (t : Int32 × Mem) (ht : f_X2_faultAs q0 a1 μ = some t) : GM G J_X2_faultAs yX2_faultAs [.ref (G.2.1 q0), .int a1] μ (oI t) :=
  gm_of (J := J_X2_faultAs) (k := kI) rfl (by decide) (Nat.le_of_ble_eq_true rfl) (v_X2_faultAs G q0 hq0 a1 μ) ht rfl
set_option maxRecDepth 100000 in
set_option maxHeartbeats 4000000 in
theorem v_X2_hasCells (G : GG) (q0 : Nat) (hq0 : isO q0 2) (a1 : Int32) (a2 : Int32) (μ : Mem) : V G J_X2_hasCells 0 [(0, .ref (G.2.1 q0)), (1, .int a1), (2, .int a2)] [] μ (f_X2_hasCells q0 a1 a2 μ) kI := by
  rw [f_X2_hasCells]
  refine v_iload_n (n := 1) dX2_hasCells_0 rfl 1 rfl rfl ?_
  refine v_if_lt (tgt := 30) (n := 4) dX2_hasCells_1 (by decide) rfl ?_ ?_
  · refine v_iconst (n := 31) (v := 0) dX2_hasCells_30 ci_0 rfl ?_
    exact v_zret dX2_hasCells_31 rfl (by decide) rfl
  · refine v_iload_n (n := 5) dX2_hasCells_4 rfl 2 rfl rfl ?_
    refine v_if_lt (tgt := 30) (n := 8) dX2_hasCells_5 (by decide) rfl ?_ ?_
    · refine v_iconst (n := 31) (v := 0) dX2_hasCells_30 ci_0 rfl ?_
      exact v_zret dX2_hasCells_31 rfl (by decide) rfl
    · refine v_iload_n (n := 9) dX2_hasCells_8 rfl 1 rfl rfl ?_
      refine v_aload_n (n := 10) dX2_hasCells_9 rfl 0 rfl rfl ?_
      refine v_getI (n := 13) (i := 3) dX2_hasCells_10 hq0 rfl fg_X2_23 rfl ?_
      refine v_icmp_gt (tgt := 30) (n := 16) dX2_hasCells_13 (by decide) rfl ?_ ?_
      · refine v_iconst (n := 31) (v := 0) dX2_hasCells_30 ci_0 rfl ?_
        exact v_zret dX2_hasCells_31 rfl (by decide) rfl
      · refine v_iload_n (n := 17) dX2_hasCells_16 rfl 2 rfl rfl ?_
        refine v_aload_n (n := 18) dX2_hasCells_17 rfl 0 rfl rfl ?_
        refine v_getI (n := 21) (i := 3) dX2_hasCells_18 hq0 rfl fg_X2_23 rfl ?_
        refine v_iload_n (n := 22) dX2_hasCells_21 rfl 1 rfl rfl ?_
        refine v_isub (n := 23) dX2_hasCells_22 rfl ?_
        refine v_icmp_gt (tgt := 30) (n := 26) dX2_hasCells_23 (by decide) rfl ?_ ?_
        · refine v_iconst (n := 31) (v := 0) dX2_hasCells_30 ci_0 rfl ?_
          exact v_zret dX2_hasCells_31 rfl (by decide) rfl
        · refine v_iconst (n := 27) (v := 1) dX2_hasCells_26 ci_1 rfl ?_
          refine v_goto (tgt := 31) dX2_hasCells_27 (by decide) ?_
          exact v_zret dX2_hasCells_31 rfl (by decide) rfl
theorem M_X2_hasCells (G : GG) (q0 : Nat) (hq0 : isO q0 2) (a1 : Int32) (a2 : Int32) (μ : Mem) (t : Int32 × Mem) (ht : f_X2_hasCells q0 a1 a2 μ = some t) : GM G J_X2_hasCells yX2_hasCells [.ref (G.2.1 q0), .int a1, .int a2] μ (oI t) :=
  gm_of (J := J_X2_hasCells) (k := kI) rfl (by decide) (Nat.le_of_ble_eq_true rfl) (v_X2_hasCells G q0 hq0 a1 a2 μ) ht rfl
set_option maxRecDepth 100000 in
set_option maxHeartbeats 4000000 in
theorem v_X4_failed (G : GG) (a1 : Int32) (μ : Mem) : V G J_X4_failed 0 [(0, .ref (G.2.1 0)), (1, .int a1)] [] μ (f_X4_failed a1 μ) kI := by
  rw [f_X4_failed]
  refine v_aload_n (n := 1) dX4_failed_0 rfl 0 rfl rfl ?_
  refine v_iload_n (n := 2) dX4_failed_1 rfl 1 rfl rfl ?_
  refine v_put (n := 5) (i := 11) dX4_failed_2 (show isO 0 4 from rfl) rfl fp_X4_52 rfl rfl rfl ?_
  refine v_lm (fun μ1 => ?_)
  refine v_bipush (n := 7) (v := -10) dX4_failed_5 cb_m10 rfl ?_
  refine v_iload_n (n := 8) dX4_failed_7 rfl 1 rfl rfl ?_
  refine v_isub (n := 9) dX4_failed_8 rfl ?_
  exact v_iret dX4_failed_9 rfl rfl
theorem M_X4_failed (G : GG) (a1 : Int32) (μ : Mem) (t : Int32 × Mem) (ht : f_X4_failed a1 μ = some t) : GM G J_X4_failed yX4_failed [.ref (G.2.1 0), .int a1] μ (oI t) :=
  gm_of (J := J_X4_failed) (k := kI) rfl (by decide) (Nat.le_of_ble_eq_true rfl) (v_X4_failed G a1 μ) ht rfl
set_option maxRecDepth 100000 in
set_option maxHeartbeats 4000000 in
theorem v_X1_begin (G : GG) (q0 : Nat) (hq0 : isO q0 1) (μ : Mem) : V G J_X1_begin 0 [(0, .ref (G.2.1 q0))] [] μ (f_X1_begin q0 μ) kV := by
  rw [f_X1_begin]
  refine v_aload_n (n := 1) dX1_begin_0 rfl 0 rfl rfl ?_
  refine v_iconst (n := 2) (v := 0) dX1_begin_1 ci_0 rfl ?_
  refine v_put (n := 5) (i := 5) dX1_begin_2 hq0 rfl fp_X1_27 rfl rfl rfl ?_
  refine v_lm (fun μ1 => ?_)
  refine v_aload_n (n := 6) dX1_begin_5 rfl 0 rfl rfl ?_
  refine v_iconst (n := 7) (v := 0) dX1_begin_6 ci_0 rfl ?_
  refine v_put (n := 10) (i := 6) dX1_begin_7 hq0 rfl fp_X1_31 rfl rfl rfl ?_
  refine v_lm (fun μ2 => ?_)
  refine v_aload_n (n := 11) dX1_begin_10 rfl 0 rfl rfl ?_
  refine v_iconst (n := 12) (v := 4) dX1_begin_11 ci_4 rfl ?_
  refine v_put (n := 15) (i := 7) dX1_begin_12 hq0 rfl fp_X1_34 rfl rfl rfl ?_
  refine v_lm (fun μ3 => ?_)
  refine v_aload_n (n := 16) dX1_begin_15 rfl 0 rfl rfl ?_
  refine v_iconst (n := 17) (v := 1) dX1_begin_16 ci_1 rfl ?_
  refine v_put (n := 20) (i := 8) dX1_begin_17 hq0 rfl fp_X1_37 rfl rfl rfl ?_
  refine v_lm (fun μ4 => ?_)
  refine v_aload_n (n := 21) dX1_begin_20 rfl 0 rfl rfl ?_
  refine v_bipush (n := 23) (v := 7) dX1_begin_21 cb_7 rfl ?_
  refine v_put (n := 26) (i := 9) dX1_begin_23 hq0 rfl fp_X1_40 rfl rfl rfl ?_
  refine v_lm (fun μ5 => ?_)
  exact v_vret dX1_begin_26 rfl rfl
theorem M_X1_begin (G : GG) (q0 : Nat) (hq0 : isO q0 1) (μ : Mem) (t : Mem) (ht : f_X1_begin q0 μ = some t) : GM G J_X1_begin yX1_begin [.ref (G.2.1 q0)] μ (oV t) :=
  gm_of (J := J_X1_begin) (k := kV) rfl (by decide) (Nat.le_of_ble_eq_true rfl) (v_X1_begin G q0 hq0 μ) ht rfl
set_option maxRecDepth 100000 in
set_option maxHeartbeats 4000000 in
theorem v_X3_kindOf (G : GG) (a0 : Int32) (μ : Mem) : V G J_X3_kindOf 0 [(0, .int a0)] [] μ (f_X3_kindOf a0 μ) kI := by
  rw [f_X3_kindOf]
  refine v_iload_n (n := 1) dX3_kindOf_0 rfl 0 rfl rfl ?_
  refine v_swif ?_ (fun hs0 => ?_)
  · refine v_lkp (tgt := 40) dX3_kindOf_1 (by decide) rfl (by decide) ?_
    refine v_iconst (n := 41) (v := 2) dX3_kindOf_40 ci_2 rfl ?_
    exact v_iret dX3_kindOf_41 rfl rfl
  refine v_swif ?_ (fun hs1 => ?_)
  · refine v_lkp (tgt := 38) dX3_kindOf_1 (by decide) rfl (by decide) ?_
    refine v_iconst (n := 39) (v := 1) dX3_kindOf_38 ci_1 rfl ?_
    exact v_iret dX3_kindOf_39 rfl rfl
  refine v_swif ?_ (fun hs2 => ?_)
  · refine v_lkp (tgt := 36) dX3_kindOf_1 (by decide) rfl (by decide) ?_
    refine v_iconst (n := 37) (v := 0) dX3_kindOf_36 ci_0 rfl ?_
    exact v_iret dX3_kindOf_37 rfl rfl
  refine v_lkp (tgt := 42) (off := 41) dX3_kindOf_1 (by decide) (by show Op.lookupswitch.offset _ _ _ = _; rw [lv_osw hs0 (by decide : (68 : Int32).toInt = 68), lv_osw hs1 (by decide : (76 : Int32).toInt = 76), lv_osw hs2 (by decide : (80 : Int32).toInt = 80)]; rfl) (by decide) ?_
  refine v_bipush (n := 44) (v := -9) dX3_kindOf_42 cb_m9 rfl ?_
  exact v_iret dX3_kindOf_44 rfl rfl
theorem M_X3_kindOf (G : GG) (a0 : Int32) (μ : Mem) (t : Int32 × Mem) (ht : f_X3_kindOf a0 μ = some t) : GM G J_X3_kindOf yX3_kindOf [.int a0] μ (oI t) :=
  gm_of (J := J_X3_kindOf) (k := kI) rfl (by decide) (Nat.le_of_ble_eq_true rfl) (v_X3_kindOf G a0 μ) ht rfl
set_option maxRecDepth 100000 in
set_option maxHeartbeats 4000000 in
theorem v_X3_isDigit (G : GG) (a0 : Int32) (μ : Mem) : V G J_X3_isDigit 0 [(0, .int a0)] [] μ (f_X3_isDigit a0 μ) kI := by
  rw [f_X3_isDigit]
  refine v_iload_n (n := 1) dX3_isDigit_0 rfl 0 rfl rfl ?_
  refine v_bipush (n := 3) (v := 49) dX3_isDigit_1 cb_49 rfl ?_
  refine v_icmp_lt (tgt := 16) (n := 6) dX3_isDigit_3 (by decide) rfl ?_ ?_
  · refine v_iconst (n := 17) (v := 0) dX3_isDigit_16 ci_0 rfl ?_
    exact v_zret dX3_isDigit_17 rfl (by decide) rfl
  · refine v_iload_n (n := 7) dX3_isDigit_6 rfl 0 rfl rfl ?_
    refine v_bipush (n := 9) (v := 57) dX3_isDigit_7 cb_57 rfl ?_
    refine v_icmp_gt (tgt := 16) (n := 12) dX3_isDigit_9 (by decide) rfl ?_ ?_
    · refine v_iconst (n := 17) (v := 0) dX3_isDigit_16 ci_0 rfl ?_
      exact v_zret dX3_isDigit_17 rfl (by decide) rfl
    · refine v_iconst (n := 13) (v := 1) dX3_isDigit_12 ci_1 rfl ?_
      refine v_goto (tgt := 17) dX3_isDigit_13 (by decide) ?_
      exact v_zret dX3_isDigit_17 rfl (by decide) rfl
theorem M_X3_isDigit (G : GG) (a0 : Int32) (μ : Mem) (t : Int32 × Mem) (ht : f_X3_isDigit a0 μ = some t) : GM G J_X3_isDigit yX3_isDigit [.int a0] μ (oI t) :=
  gm_of (J := J_X3_isDigit) (k := kI) rfl (by decide) (Nat.le_of_ble_eq_true rfl) (v_X3_isDigit G a0 μ) ht rfl
set_option maxRecDepth 100000 in
set_option maxHeartbeats 4000000 in
theorem v_X3_anchorOf (G : GG) (a0 : Int32) (μ : Mem) : V G J_X3_anchorOf 0 [(0, .int a0)] [] μ (f_X3_anchorOf a0 μ) kI := by
  rw [f_X3_anchorOf]
  refine v_iload_n (n := 1) dX3_anchorOf_0 rfl 0 rfl rfl ?_
  refine v_bipush (n := 3) (v := 45) dX3_anchorOf_1 cb_45 rfl ?_
  refine v_icmp_ne (tgt := 8) (n := 6) dX3_anchorOf_3 (by decide) rfl ?_ ?_
  · refine v_iconst (n := 7) (v := 4) dX3_anchorOf_6 ci_4 rfl ?_
    exact v_iret dX3_anchorOf_7 rfl rfl
  · refine v_iload_n (n := 9) dX3_anchorOf_8 rfl 0 rfl rfl ?_
    refine v_bipush (n := 11) (v := 97) dX3_anchorOf_9 cb_97 rfl ?_
    refine v_icmp_lt (tgt := 27) (n := 14) dX3_anchorOf_11 (by decide) rfl ?_ ?_
    · refine v_bipush (n := 29) (v := -9) dX3_anchorOf_27 cb_m9 rfl ?_
      exact v_iret dX3_anchorOf_29 rfl rfl
    · refine v_iload_n (n := 15) dX3_anchorOf_14 rfl 0 rfl rfl ?_
      refine v_bipush (n := 17) (v := 100) dX3_anchorOf_15 cb_100 rfl ?_
      refine v_icmp_gt (tgt := 27) (n := 20) dX3_anchorOf_17 (by decide) rfl ?_ ?_
      · refine v_bipush (n := 29) (v := -9) dX3_anchorOf_27 cb_m9 rfl ?_
        exact v_iret dX3_anchorOf_29 rfl rfl
      · refine v_iload_n (n := 21) dX3_anchorOf_20 rfl 0 rfl rfl ?_
        refine v_bipush (n := 23) (v := 97) dX3_anchorOf_21 cb_97 rfl ?_
        refine v_isub (n := 24) dX3_anchorOf_23 rfl ?_
        refine v_goto (tgt := 29) dX3_anchorOf_24 (by decide) ?_
        exact v_iret dX3_anchorOf_29 rfl rfl
theorem M_X3_anchorOf (G : GG) (a0 : Int32) (μ : Mem) (t : Int32 × Mem) (ht : f_X3_anchorOf a0 μ = some t) : GM G J_X3_anchorOf yX3_anchorOf [.int a0] μ (oI t) :=
  gm_of (J := J_X3_anchorOf) (k := kI) rfl (by decide) (Nat.le_of_ble_eq_true rfl) (v_X3_anchorOf G a0 μ) ht rfl
set_option maxRecDepth 100000 in
set_option maxHeartbeats 4000000 in
theorem v_X3_goesOnInLeft (G : GG) (a1 : Int32) (q2 : Nat) (hq2 : isO q2 1) (μ : Mem) : V G J_X3_goesOnInLeft 0 [(0, .ref (G.2.1 32)), (1, .int a1), (2, .ref (G.2.1 q2))] [] μ (f_X3_goesOnInLeft a1 q2 μ) kI := by
  rw [f_X3_goesOnInLeft]
  refine v_aload_n (n := 1) dX3_goesOnInLeft_0 rfl 2 rfl rfl ?_
  refine v_getI (n := 4) (i := 5) dX3_goesOnInLeft_1 hq2 rfl fg_X3_30 rfl ?_
  refine v_lt (fun x1 => ?_)
  refine v_istore_n (n := 5) [(3, .int x1), (0, .ref (G.2.1 32)), (1, .int a1), (2, .ref (G.2.1 q2))] dX3_goesOnInLeft_4 rfl (by decide) rfl rfl ?_
  refine v_iload_n (n := 6) dX3_goesOnInLeft_5 rfl 0 rfl rfl ?_
  refine v_bipush (n := 8) (v := 7) dX3_goesOnInLeft_6 cb_7 rfl ?_
  refine v_icmp_lt (tgt := 13) (n := 11) dX3_goesOnInLeft_8 (by decide) rfl ?_ ?_
  · refine v_aload_n (n := 14) dX3_goesOnInLeft_13 rfl 1 rfl rfl ?_
    refine v_getI (n := 17) (i := 0) dX3_goesOnInLeft_14 (show isO 32 3 from rfl) rfl fg_X3_16 rfl ?_
    refine v_iconst (n := 18) (v := 2) dX3_goesOnInLeft_17 ci_2 rfl ?_
    refine v_icmp_ne (tgt := 53) (n := 21) dX3_goesOnInLeft_18 (by decide) rfl ?_ ?_
    · refine v_aload_n (n := 22) dX3_goesOnInLeft_21 rfl 1 rfl rfl ?_
      refine v_iconst (n := 23) (v := 3) dX3_goesOnInLeft_22 ci_3 rfl ?_
      refine v_put (n := 26) (i := 0) dX3_goesOnInLeft_23 (show isO 32 3 from rfl) rfl fp_X3_16 rfl rfl rfl ?_
      refine v_lm (fun μ11 => ?_)
      refine v_aload_n (n := 27) dX3_goesOnInLeft_26 rfl 3 rfl rfl ?_
      refine v_getR (n := 30) (i := 0) (q2 := (q2 + 1)) dX3_goesOnInLeft_27 hq2 rfl fg_X3_42 rfl ?_
      refine v_iload_n (n := 31) dX3_goesOnInLeft_30 rfl 0 rfl rfl ?_
      refine v_iload_n (n := 32) dX3_goesOnInLeft_31 rfl 2 rfl rfl ?_
      refine v_cSi (n := 35) (st := [.int x1, .ref (G.2.1 (q2 + 1))]) [.int a1] dX3_goesOnInLeft_32 (fun t ht => M_X3_kindOf G a1 μ11 t ht) cal_X3_kindOf mw16 rfl rfl (Nat.le_of_ble_eq_true rfl) ⟨Nat.le_of_ble_eq_true rfl, Nat.le_of_ble_eq_true rfl⟩ rfl (fun x13 μ12 => ?_)
      refine v_iast (n := 36) dX3_goesOnInLeft_35 (ar1_0 hq2) rfl ?_
      refine v_lm (fun μ14 => ?_)
      refine v_aload_n (n := 37) dX3_goesOnInLeft_36 rfl 3 rfl rfl ?_
      refine v_getR (n := 40) (i := 0) (q2 := (q2 + 1)) dX3_goesOnInLeft_37 hq2 rfl fg_X3_42 rfl ?_
      refine v_iload_n (n := 41) dX3_goesOnInLeft_40 rfl 0 rfl rfl ?_
      refine v_iald (n := 42) dX3_goesOnInLeft_41 (ar1_0 hq2) rfl ?_
      refine v_bipush (n := 44) (v := -9) dX3_goesOnInLeft_42 cb_m9 rfl ?_
      refine v_icmp_eq (tgt := 51) (n := 47) dX3_goesOnInLeft_44 (by decide) rfl ?_ ?_
      · refine v_iconst (n := 52) (v := 0) dX3_goesOnInLeft_51 ci_0 rfl ?_
        exact v_zret dX3_goesOnInLeft_52 rfl (by decide) rfl
      · refine v_iconst (n := 48) (v := 1) dX3_goesOnInLeft_47 ci_1 rfl ?_
        refine v_goto (tgt := 52) dX3_goesOnInLeft_48 (by decide) ?_
        exact v_zret dX3_goesOnInLeft_52 rfl (by decide) rfl
    · refine v_aload_n (n := 54) dX3_goesOnInLeft_53 rfl 1 rfl rfl ?_
      refine v_getI (n := 57) (i := 0) dX3_goesOnInLeft_54 (show isO 32 3 from rfl) rfl fg_X3_16 rfl ?_
      refine v_iconst (n := 58) (v := 3) dX3_goesOnInLeft_57 ci_3 rfl ?_
      refine v_icmp_ne (tgt := 81) (n := 61) dX3_goesOnInLeft_58 (by decide) rfl ?_ ?_
      · refine v_aload_n (n := 62) dX3_goesOnInLeft_61 rfl 1 rfl rfl ?_
        refine v_iconst (n := 63) (v := 4) dX3_goesOnInLeft_62 ci_4 rfl ?_
        refine v_put (n := 66) (i := 0) dX3_goesOnInLeft_63 (show isO 32 3 from rfl) rfl fp_X3_16 rfl rfl rfl ?_
        refine v_lm (fun μ7 => ?_)
        refine v_aload_n (n := 67) dX3_goesOnInLeft_66 rfl 3 rfl rfl ?_
        refine v_getR (n := 70) (i := 1) (q2 := (q2 + 2)) dX3_goesOnInLeft_67 hq2 rfl fg_X3_49 rfl ?_
        refine v_iload_n (n := 71) dX3_goesOnInLeft_70 rfl 0 rfl rfl ?_
        refine v_iload_n (n := 72) dX3_goesOnInLeft_71 rfl 2 rfl rfl ?_
        refine v_bipush (n := 74) (v := 48) dX3_goesOnInLeft_72 cb_48 rfl ?_
        refine v_isub (n := 75) dX3_goesOnInLeft_74 rfl ?_
        refine v_iast (n := 76) dX3_goesOnInLeft_75 (ar1_1 hq2) rfl ?_
        refine v_lm (fun μ8 => ?_)
        refine v_iload_n (n := 77) dX3_goesOnInLeft_76 rfl 2 rfl rfl ?_
        refine v_cSi (n := 80) (st := []) [.int a1] dX3_goesOnInLeft_77 (fun t ht => M_X3_isDigit G a1 μ8 t ht) cal_X3_isDigit mw14 rfl rfl (Nat.le_of_ble_eq_true rfl) ⟨Nat.le_of_ble_eq_true rfl, Nat.le_of_ble_eq_true rfl⟩ rfl (fun x10 μ9 => ?_)
        exact v_zretV dX3_goesOnInLeft_80 rfl rfl
      · refine v_aload_n (n := 82) dX3_goesOnInLeft_81 rfl 1 rfl rfl ?_
        refine v_iconst (n := 83) (v := 5) dX3_goesOnInLeft_82 ci_5 rfl ?_
        refine v_put (n := 86) (i := 0) dX3_goesOnInLeft_83 (show isO 32 3 from rfl) rfl fp_X3_16 rfl rfl rfl ?_
        refine v_lm (fun μ2 => ?_)
        refine v_aload_n (n := 87) dX3_goesOnInLeft_86 rfl 3 rfl rfl ?_
        refine v_getR (n := 90) (i := 2) (q2 := (q2 + 3)) dX3_goesOnInLeft_87 hq2 rfl fg_X3_56 rfl ?_
        refine v_iload_n (n := 91) dX3_goesOnInLeft_90 rfl 0 rfl rfl ?_
        refine v_iload_n (n := 92) dX3_goesOnInLeft_91 rfl 2 rfl rfl ?_
        refine v_cSi (n := 95) (st := [.int x1, .ref (G.2.1 (q2 + 3))]) [.int a1] dX3_goesOnInLeft_92 (fun t ht => M_X3_anchorOf G a1 μ2 t ht) cal_X3_anchorOf mw12 rfl rfl (Nat.le_of_ble_eq_true rfl) ⟨Nat.le_of_ble_eq_true rfl, Nat.le_of_ble_eq_true rfl⟩ rfl (fun x4 μ3 => ?_)
        refine v_iast (n := 96) dX3_goesOnInLeft_95 (ar1_2 hq2) rfl ?_
        refine v_lm (fun μ5 => ?_)
        refine v_aload_n (n := 97) dX3_goesOnInLeft_96 rfl 3 rfl rfl ?_
        refine v_dup (n := 98) dX3_goesOnInLeft_97 rfl rfl ?_
        refine v_getI (n := 101) (i := 5) dX3_goesOnInLeft_98 hq2 rfl fg_X3_30 rfl ?_
        refine v_iconst (n := 102) (v := 1) dX3_goesOnInLeft_101 ci_1 rfl ?_
        refine v_iadd (n := 103) dX3_goesOnInLeft_102 rfl ?_
        refine v_put (n := 106) (i := 5) dX3_goesOnInLeft_103 hq2 rfl fp_X3_30 rfl rfl rfl ?_
        refine v_lm (fun μ6 => ?_)
        refine v_aload_n (n := 107) dX3_goesOnInLeft_106 rfl 3 rfl rfl ?_
        refine v_getR (n := 110) (i := 2) (q2 := (q2 + 3)) dX3_goesOnInLeft_107 hq2 rfl fg_X3_56 rfl ?_
        refine v_iload_n (n := 111) dX3_goesOnInLeft_110 rfl 0 rfl rfl ?_
        refine v_iald (n := 112) dX3_goesOnInLeft_111 (ar1_2 hq2) rfl ?_
        refine v_bipush (n := 114) (v := -9) dX3_goesOnInLeft_112 cb_m9 rfl ?_
        refine v_icmp_eq (tgt := 121) (n := 117) dX3_goesOnInLeft_114 (by decide) rfl ?_ ?_
        · refine v_iconst (n := 122) (v := 0) dX3_goesOnInLeft_121 ci_0 rfl ?_
          exact v_zret dX3_goesOnInLeft_122 rfl (by decide) rfl
        · refine v_iconst (n := 118) (v := 1) dX3_goesOnInLeft_117 ci_1 rfl ?_
          refine v_goto (tgt := 122) dX3_goesOnInLeft_118 (by decide) ?_
          exact v_zret dX3_goesOnInLeft_122 rfl (by decide) rfl
  · refine v_iconst (n := 12) (v := 0) dX3_goesOnInLeft_11 ci_0 rfl ?_
    exact v_zret dX3_goesOnInLeft_12 rfl (by decide) rfl
theorem M_X3_goesOnInLeft (G : GG) (a1 : Int32) (q2 : Nat) (hq2 : isO q2 1) (μ : Mem) (t : Int32 × Mem) (ht : f_X3_goesOnInLeft a1 q2 μ = some t) : GM G J_X3_goesOnInLeft yX3_goesOnInLeft [.ref (G.2.1 32), .int a1, .ref (G.2.1 q2)] μ (oI t) :=
  gm_of (J := J_X3_goesOnInLeft) (k := kI) rfl (by decide) (Nat.le_of_ble_eq_true rfl) (v_X3_goesOnInLeft G a1 q2 hq2 μ) ht rfl
set_option maxRecDepth 100000 in
set_option maxHeartbeats 4000000 in
theorem v_X3_goesOnInRight (G : GG) (a1 : Int32) (q2 : Nat) (hq2 : isO q2 1) (μ : Mem) : V G J_X3_goesOnInRight 0 [(0, .ref (G.2.1 32)), (1, .int a1), (2, .ref (G.2.1 q2))] [] μ (f_X3_goesOnInRight a1 q2 μ) kI := by
  rw [f_X3_goesOnInRight]
  refine v_aload_n (n := 1) dX3_goesOnInRight_0 rfl 2 rfl rfl ?_
  refine v_getI (n := 4) (i := 6) dX3_goesOnInRight_1 hq2 rfl fg_X3_33 rfl ?_
  refine v_lt (fun x1 => ?_)
  refine v_istore_n (n := 5) [(3, .int x1), (0, .ref (G.2.1 32)), (1, .int a1), (2, .ref (G.2.1 q2))] dX3_goesOnInRight_4 rfl (by decide) rfl rfl ?_
  refine v_iload_n (n := 6) dX3_goesOnInRight_5 rfl 0 rfl rfl ?_
  refine v_bipush (n := 8) (v := 7) dX3_goesOnInRight_6 cb_7 rfl ?_
  refine v_icmp_lt (tgt := 13) (n := 11) dX3_goesOnInRight_8 (by decide) rfl ?_ ?_
  · refine v_aload_n (n := 14) dX3_goesOnInRight_13 rfl 1 rfl rfl ?_
    refine v_getI (n := 17) (i := 0) dX3_goesOnInRight_14 (show isO 32 3 from rfl) rfl fg_X3_16 rfl ?_
    refine v_bipush (n := 19) (v := 6) dX3_goesOnInRight_17 cb_6 rfl ?_
    refine v_icmp_ne (tgt := 43) (n := 22) dX3_goesOnInRight_19 (by decide) rfl ?_ ?_
    · refine v_aload_n (n := 23) dX3_goesOnInRight_22 rfl 1 rfl rfl ?_
      refine v_bipush (n := 25) (v := 7) dX3_goesOnInRight_23 cb_7 rfl ?_
      refine v_put (n := 28) (i := 0) dX3_goesOnInRight_25 (show isO 32 3 from rfl) rfl fp_X3_16 rfl rfl rfl ?_
      refine v_lm (fun μ7 => ?_)
      refine v_aload_n (n := 29) dX3_goesOnInRight_28 rfl 3 rfl rfl ?_
      refine v_getR (n := 32) (i := 3) (q2 := (q2 + 4)) dX3_goesOnInRight_29 hq2 rfl fg_X3_62 rfl ?_
      refine v_iload_n (n := 33) dX3_goesOnInRight_32 rfl 0 rfl rfl ?_
      refine v_iload_n (n := 34) dX3_goesOnInRight_33 rfl 2 rfl rfl ?_
      refine v_bipush (n := 36) (v := 48) dX3_goesOnInRight_34 cb_48 rfl ?_
      refine v_isub (n := 37) dX3_goesOnInRight_36 rfl ?_
      refine v_iast (n := 38) dX3_goesOnInRight_37 (ar1_3 hq2) rfl ?_
      refine v_lm (fun μ8 => ?_)
      refine v_iload_n (n := 39) dX3_goesOnInRight_38 rfl 2 rfl rfl ?_
      refine v_cSi (n := 42) (st := []) [.int a1] dX3_goesOnInRight_39 (fun t ht => M_X3_isDigit G a1 μ8 t ht) cal_X3_isDigit mw14 rfl rfl (Nat.le_of_ble_eq_true rfl) ⟨Nat.le_of_ble_eq_true rfl, Nat.le_of_ble_eq_true rfl⟩ rfl (fun x10 μ9 => ?_)
      exact v_zretV dX3_goesOnInRight_42 rfl rfl
    · refine v_aload_n (n := 44) dX3_goesOnInRight_43 rfl 1 rfl rfl ?_
      refine v_bipush (n := 46) (v := 8) dX3_goesOnInRight_44 cb_8 rfl ?_
      refine v_put (n := 49) (i := 0) dX3_goesOnInRight_46 (show isO 32 3 from rfl) rfl fp_X3_16 rfl rfl rfl ?_
      refine v_lm (fun μ2 => ?_)
      refine v_aload_n (n := 50) dX3_goesOnInRight_49 rfl 3 rfl rfl ?_
      refine v_getR (n := 53) (i := 4) (q2 := (q2 + 5)) dX3_goesOnInRight_50 hq2 rfl fg_X3_65 rfl ?_
      refine v_iload_n (n := 54) dX3_goesOnInRight_53 rfl 0 rfl rfl ?_
      refine v_iload_n (n := 55) dX3_goesOnInRight_54 rfl 2 rfl rfl ?_
      refine v_cSi (n := 58) (st := [.int x1, .ref (G.2.1 (q2 + 5))]) [.int a1] dX3_goesOnInRight_55 (fun t ht => M_X3_anchorOf G a1 μ2 t ht) cal_X3_anchorOf mw12 rfl rfl (Nat.le_of_ble_eq_true rfl) ⟨Nat.le_of_ble_eq_true rfl, Nat.le_of_ble_eq_true rfl⟩ rfl (fun x4 μ3 => ?_)
      refine v_iast (n := 59) dX3_goesOnInRight_58 (ar1_4 hq2) rfl ?_
      refine v_lm (fun μ5 => ?_)
      refine v_aload_n (n := 60) dX3_goesOnInRight_59 rfl 3 rfl rfl ?_
      refine v_dup (n := 61) dX3_goesOnInRight_60 rfl rfl ?_
      refine v_getI (n := 64) (i := 6) dX3_goesOnInRight_61 hq2 rfl fg_X3_33 rfl ?_
      refine v_iconst (n := 65) (v := 1) dX3_goesOnInRight_64 ci_1 rfl ?_
      refine v_iadd (n := 66) dX3_goesOnInRight_65 rfl ?_
      refine v_put (n := 69) (i := 6) dX3_goesOnInRight_66 hq2 rfl fp_X3_33 rfl rfl rfl ?_
      refine v_lm (fun μ6 => ?_)
      refine v_aload_n (n := 70) dX3_goesOnInRight_69 rfl 3 rfl rfl ?_
      refine v_getR (n := 73) (i := 4) (q2 := (q2 + 5)) dX3_goesOnInRight_70 hq2 rfl fg_X3_65 rfl ?_
      refine v_iload_n (n := 74) dX3_goesOnInRight_73 rfl 0 rfl rfl ?_
      refine v_iald (n := 75) dX3_goesOnInRight_74 (ar1_4 hq2) rfl ?_
      refine v_bipush (n := 77) (v := -9) dX3_goesOnInRight_75 cb_m9 rfl ?_
      refine v_icmp_eq (tgt := 84) (n := 80) dX3_goesOnInRight_77 (by decide) rfl ?_ ?_
      · refine v_iconst (n := 85) (v := 0) dX3_goesOnInRight_84 ci_0 rfl ?_
        exact v_zret dX3_goesOnInRight_85 rfl (by decide) rfl
      · refine v_iconst (n := 81) (v := 1) dX3_goesOnInRight_80 ci_1 rfl ?_
        refine v_goto (tgt := 85) dX3_goesOnInRight_81 (by decide) ?_
        exact v_zret dX3_goesOnInRight_85 rfl (by decide) rfl
  · refine v_iconst (n := 12) (v := 0) dX3_goesOnInRight_11 ci_0 rfl ?_
    exact v_zret dX3_goesOnInRight_12 rfl (by decide) rfl
theorem M_X3_goesOnInRight (G : GG) (a1 : Int32) (q2 : Nat) (hq2 : isO q2 1) (μ : Mem) (t : Int32 × Mem) (ht : f_X3_goesOnInRight a1 q2 μ = some t) : GM G J_X3_goesOnInRight yX3_goesOnInRight [.ref (G.2.1 32), .int a1, .ref (G.2.1 q2)] μ (oI t) :=
  gm_of (J := J_X3_goesOnInRight) (k := kI) rfl (by decide) (Nat.le_of_ble_eq_true rfl) (v_X3_goesOnInRight G a1 q2 hq2 μ) ht rfl
set_option maxRecDepth 100000 in
set_option maxHeartbeats 4000000 in
theorem vjn_X3_goesOn_103 (G : GG) (x1v : Int32) (r2v : Nat) (hr2v : isO r2v 1) (s0v : Int32) (μ : Mem) : V G J_X3_goesOn 103 [(1, .int x1v), (2, .ref (G.2.1 r2v))] [.int s0v, .ref (G.2.1 32)] μ (jn_X3_goesOn_103 x1v r2v s0v μ) kI := by
  rw [jn_X3_goesOn_103]
  refine v_put (n := 106) (i := 0) dX3_goesOn_103 (show isO 32 3 from rfl) rfl fp_X3_16 rfl rfl rfl ?_
  refine v_lm (fun μ10 => ?_)
  refine v_iload_n (n := 107) dX3_goesOn_106 rfl 0 rfl rfl ?_
  refine v_bipush (n := 109) (v := 44) dX3_goesOn_107 cb_44 rfl ?_
  refine v_icmp_eq (tgt := 127) (n := 112) dX3_goesOn_109 (by decide) rfl ?_ ?_
  · refine v_iconst (n := 128) (v := 1) dX3_goesOn_127 ci_1 rfl ?_
    refine v_goto (tgt := 132) dX3_goesOn_128 (by decide) ?_
    exact v_zret dX3_goesOn_132 rfl (by decide) rfl
  · refine v_iload_n (n := 113) dX3_goesOn_112 rfl 0 rfl rfl ?_
    refine v_bipush (n := 115) (v := 59) dX3_goesOn_113 cb_59 rfl ?_
    refine v_icmp_ne (tgt := 131) (n := 118) dX3_goesOn_115 (by decide) rfl ?_ ?_
    · refine v_aload_n (n := 119) dX3_goesOn_118 rfl 1 rfl rfl ?_
      refine v_getI (n := 122) (i := 5) dX3_goesOn_119 hr2v rfl fg_X3_30 rfl ?_
      refine v_bipush (n := 124) (v := 7) dX3_goesOn_122 cb_7 rfl ?_
      refine v_icmp_ge (tgt := 131) (n := 127) dX3_goesOn_124 (by decide) rfl ?_ ?_
      · refine v_iconst (n := 132) (v := 0) dX3_goesOn_131 ci_0 rfl ?_
        exact v_zret dX3_goesOn_132 rfl (by decide) rfl
      · refine v_iconst (n := 128) (v := 1) dX3_goesOn_127 ci_1 rfl ?_
        refine v_goto (tgt := 132) dX3_goesOn_128 (by decide) ?_
        exact v_zret dX3_goesOn_132 rfl (by decide) rfl
    · refine v_iconst (n := 132) (v := 0) dX3_goesOn_131 ci_0 rfl ?_
      exact v_zret dX3_goesOn_132 rfl (by decide) rfl
set_option maxRecDepth 100000 in
set_option maxHeartbeats 4000000 in
theorem v_X3_goesOn (G : GG) (a1 : Int32) (q2 : Nat) (hq2 : isO q2 1) (μ : Mem) : V G J_X3_goesOn 0 [(0, .ref (G.2.1 32)), (1, .int a1), (2, .ref (G.2.1 q2))] [] μ (f_X3_goesOn a1 q2 μ) kI := by
  rw [f_X3_goesOn]
  refine v_aload_n (n := 1) dX3_goesOn_0 rfl 0 rfl rfl ?_
  refine v_getI (n := 4) (i := 0) dX3_goesOn_1 (show isO 32 3 from rfl) rfl fg_X3_16 rfl ?_
  refine v_lt (fun x1 => ?_)
  refine v_swif ?_ (fun hs0 => ?_)
  · refine v_tblI (tgt := 56) dX3_goesOn_4 (by decide) (by decide) rfl (by decide) ?_
    refine v_aload_n (n := 57) dX3_goesOn_56 rfl 0 rfl rfl ?_
    refine v_iconst (n := 58) (v := 1) dX3_goesOn_57 ci_1 rfl ?_
    refine v_put (n := 61) (i := 0) dX3_goesOn_58 (show isO 32 3 from rfl) rfl fp_X3_16 rfl rfl rfl ?_
    refine v_lm (fun μ2 => ?_)
    refine v_iload_n (n := 62) dX3_goesOn_61 rfl 1 rfl rfl ?_
    refine v_bipush (n := 64) (v := 98) dX3_goesOn_62 cb_98 rfl ?_
    refine v_icmp_ne (tgt := 71) (n := 67) dX3_goesOn_64 (by decide) rfl ?_ ?_
    · refine v_iconst (n := 68) (v := 1) dX3_goesOn_67 ci_1 rfl ?_
      refine v_goto (tgt := 72) dX3_goesOn_68 (by decide) ?_
      exact v_zret dX3_goesOn_72 rfl (by decide) rfl
    · refine v_iconst (n := 72) (v := 0) dX3_goesOn_71 ci_0 rfl ?_
      exact v_zret dX3_goesOn_72 rfl (by decide) rfl
  refine v_swif ?_ (fun hs1 => ?_)
  · refine v_tblI (tgt := 73) dX3_goesOn_4 (by decide) (by decide) rfl (by decide) ?_
    refine v_aload_n (n := 74) dX3_goesOn_73 rfl 0 rfl rfl ?_
    refine v_iconst (n := 75) (v := 2) dX3_goesOn_74 ci_2 rfl ?_
    refine v_put (n := 78) (i := 0) dX3_goesOn_75 (show isO 32 3 from rfl) rfl fp_X3_16 rfl rfl rfl ?_
    refine v_lm (fun μ3 => ?_)
    refine v_iload_n (n := 79) dX3_goesOn_78 rfl 1 rfl rfl ?_
    refine v_bipush (n := 81) (v := 59) dX3_goesOn_79 cb_59 rfl ?_
    refine v_icmp_ne (tgt := 88) (n := 84) dX3_goesOn_81 (by decide) rfl ?_ ?_
    · refine v_iconst (n := 85) (v := 1) dX3_goesOn_84 ci_1 rfl ?_
      refine v_goto (tgt := 89) dX3_goesOn_85 (by decide) ?_
      exact v_zret dX3_goesOn_89 rfl (by decide) rfl
    · refine v_iconst (n := 89) (v := 0) dX3_goesOn_88 ci_0 rfl ?_
      exact v_zret dX3_goesOn_89 rfl (by decide) rfl
  refine v_swif ?_ (fun hs2 => ?_)
  · refine v_tblI (tgt := 160) dX3_goesOn_4 (by decide) (by decide) rfl (by decide) ?_
    refine v_aload_n (n := 161) dX3_goesOn_160 rfl 0 rfl rfl ?_
    refine v_iload_n (n := 162) dX3_goesOn_161 rfl 1 rfl rfl ?_
    refine v_aload_n (n := 163) dX3_goesOn_162 rfl 2 rfl rfl ?_
    refine v_cVi (n := 166) (st := []) [.int a1, .ref (G.2.1 q2)] dX3_goesOn_163 (fun t ht => M_X3_goesOnInLeft G a1 q2 hq2 μ t ht) cal_X3_goesOnInLeft mw20 (show isO 32 3 from rfl) rfl rfl (Nat.le_of_ble_eq_true rfl) ⟨Nat.le_of_ble_eq_true rfl, Nat.le_of_ble_eq_true rfl⟩ rfl (fun x5 μ4 => ?_)
    exact v_zretV dX3_goesOn_166 rfl rfl
  refine v_swif ?_ (fun hs3 => ?_)
  · refine v_tblI (tgt := 160) dX3_goesOn_4 (by decide) (by decide) rfl (by decide) ?_
    refine v_aload_n (n := 161) dX3_goesOn_160 rfl 0 rfl rfl ?_
    refine v_iload_n (n := 162) dX3_goesOn_161 rfl 1 rfl rfl ?_
    refine v_aload_n (n := 163) dX3_goesOn_162 rfl 2 rfl rfl ?_
    refine v_cVi (n := 166) (st := []) [.int a1, .ref (G.2.1 q2)] dX3_goesOn_163 (fun t ht => M_X3_goesOnInLeft G a1 q2 hq2 μ t ht) cal_X3_goesOnInLeft mw20 (show isO 32 3 from rfl) rfl rfl (Nat.le_of_ble_eq_true rfl) ⟨Nat.le_of_ble_eq_true rfl, Nat.le_of_ble_eq_true rfl⟩ rfl (fun x7 μ6 => ?_)
    exact v_zretV dX3_goesOn_166 rfl rfl
  refine v_swif ?_ (fun hs4 => ?_)
  · refine v_tblI (tgt := 160) dX3_goesOn_4 (by decide) (by decide) rfl (by decide) ?_
    refine v_aload_n (n := 161) dX3_goesOn_160 rfl 0 rfl rfl ?_
    refine v_iload_n (n := 162) dX3_goesOn_161 rfl 1 rfl rfl ?_
    refine v_aload_n (n := 163) dX3_goesOn_162 rfl 2 rfl rfl ?_
    refine v_cVi (n := 166) (st := []) [.int a1, .ref (G.2.1 q2)] dX3_goesOn_163 (fun t ht => M_X3_goesOnInLeft G a1 q2 hq2 μ t ht) cal_X3_goesOnInLeft mw20 (show isO 32 3 from rfl) rfl rfl (Nat.le_of_ble_eq_true rfl) ⟨Nat.le_of_ble_eq_true rfl, Nat.le_of_ble_eq_true rfl⟩ rfl (fun x9 μ8 => ?_)
    exact v_zretV dX3_goesOn_166 rfl rfl
  refine v_swif ?_ (fun hs5 => ?_)
  · refine v_tblI (tgt := 90) dX3_goesOn_4 (by decide) (by decide) rfl (by decide) ?_
    refine v_aload_n (n := 91) dX3_goesOn_90 rfl 0 rfl rfl ?_
    refine v_iload_n (n := 92) dX3_goesOn_91 rfl 1 rfl rfl ?_
    refine v_bipush (n := 94) (v := 59) dX3_goesOn_92 cb_59 rfl ?_
    refine v_icmp_ne (tgt := 101) (n := 97) dX3_goesOn_94 (by decide) rfl ?_ ?_
    · refine v_iconst (n := 98) (v := 2) dX3_goesOn_97 ci_2 rfl ?_
      refine v_goto (tgt := 103) dX3_goesOn_98 (by decide) ?_
      exact v_sub [1, 2] rfl (vjn_X3_goesOn_103 G a1 q2 hq2 (2 : Int32) μ)
    · refine v_bipush (n := 103) (v := 6) dX3_goesOn_101 cb_6 rfl ?_
      exact v_sub [1, 2] rfl (vjn_X3_goesOn_103 G a1 q2 hq2 (6 : Int32) μ)
  refine v_swif ?_ (fun hs6 => ?_)
  · refine v_tblI (tgt := 167) dX3_goesOn_4 (by decide) (by decide) rfl (by decide) ?_
    refine v_aload_n (n := 168) dX3_goesOn_167 rfl 0 rfl rfl ?_
    refine v_iload_n (n := 169) dX3_goesOn_168 rfl 1 rfl rfl ?_
    refine v_aload_n (n := 170) dX3_goesOn_169 rfl 2 rfl rfl ?_
    refine v_cVi (n := 173) (st := []) [.int a1, .ref (G.2.1 q2)] dX3_goesOn_170 (fun t ht => M_X3_goesOnInRight G a1 q2 hq2 μ t ht) cal_X3_goesOnInRight mw21 (show isO 32 3 from rfl) rfl rfl (Nat.le_of_ble_eq_true rfl) ⟨Nat.le_of_ble_eq_true rfl, Nat.le_of_ble_eq_true rfl⟩ rfl (fun x12 μ11 => ?_)
    exact v_zretV dX3_goesOn_173 rfl rfl
  refine v_swif ?_ (fun hs7 => ?_)
  · refine v_tblI (tgt := 167) dX3_goesOn_4 (by decide) (by decide) rfl (by decide) ?_
    refine v_aload_n (n := 168) dX3_goesOn_167 rfl 0 rfl rfl ?_
    refine v_iload_n (n := 169) dX3_goesOn_168 rfl 1 rfl rfl ?_
    refine v_aload_n (n := 170) dX3_goesOn_169 rfl 2 rfl rfl ?_
    refine v_cVi (n := 173) (st := []) [.int a1, .ref (G.2.1 q2)] dX3_goesOn_170 (fun t ht => M_X3_goesOnInRight G a1 q2 hq2 μ t ht) cal_X3_goesOnInRight mw21 (show isO 32 3 from rfl) rfl rfl (Nat.le_of_ble_eq_true rfl) ⟨Nat.le_of_ble_eq_true rfl, Nat.le_of_ble_eq_true rfl⟩ rfl (fun x14 μ13 => ?_)
    exact v_zretV dX3_goesOn_173 rfl rfl
  refine v_swif ?_ (fun hs8 => ?_)
  · refine v_tblI (tgt := 133) dX3_goesOn_4 (by decide) (by decide) rfl (by decide) ?_
    refine v_aload_n (n := 134) dX3_goesOn_133 rfl 0 rfl rfl ?_
    refine v_bipush (n := 136) (v := 6) dX3_goesOn_134 cb_6 rfl ?_
    refine v_put (n := 139) (i := 0) dX3_goesOn_136 (show isO 32 3 from rfl) rfl fp_X3_16 rfl rfl rfl ?_
    refine v_lm (fun μ15 => ?_)
    refine v_iload_n (n := 140) dX3_goesOn_139 rfl 1 rfl rfl ?_
    refine v_bipush (n := 142) (v := 44) dX3_goesOn_140 cb_44 rfl ?_
    refine v_icmp_ne (tgt := 158) (n := 145) dX3_goesOn_142 (by decide) rfl ?_ ?_
    · refine v_aload_n (n := 146) dX3_goesOn_145 rfl 2 rfl rfl ?_
      refine v_getI (n := 149) (i := 6) dX3_goesOn_146 hq2 rfl fg_X3_33 rfl ?_
      refine v_bipush (n := 151) (v := 7) dX3_goesOn_149 cb_7 rfl ?_
      refine v_icmp_ge (tgt := 158) (n := 154) dX3_goesOn_151 (by decide) rfl ?_ ?_
      · refine v_iconst (n := 159) (v := 0) dX3_goesOn_158 ci_0 rfl ?_
        exact v_zret dX3_goesOn_159 rfl (by decide) rfl
      · refine v_iconst (n := 155) (v := 1) dX3_goesOn_154 ci_1 rfl ?_
        refine v_goto (tgt := 159) dX3_goesOn_155 (by decide) ?_
        exact v_zret dX3_goesOn_159 rfl (by decide) rfl
    · refine v_iconst (n := 159) (v := 0) dX3_goesOn_158 ci_0 rfl ?_
      exact v_zret dX3_goesOn_159 rfl (by decide) rfl
  refine v_tblO (tgt := 167) dX3_goesOn_4 (by have hs0 := lv_neT hs0 (by decide : (0 : Int32).toInt = 0); have hs1 := lv_neT hs1 (by decide : (1 : Int32).toInt = 1); have hs2 := lv_neT hs2 (by decide : (2 : Int32).toInt = 2); have hs3 := lv_neT hs3 (by decide : (3 : Int32).toInt = 3); have hs4 := lv_neT hs4 (by decide : (4 : Int32).toInt = 4); have hs5 := lv_neT hs5 (by decide : (5 : Int32).toInt = 5); have hs6 := lv_neT hs6 (by decide : (6 : Int32).toInt = 6); have hs7 := lv_neT hs7 (by decide : (7 : Int32).toInt = 7); have hs8 := lv_neT hs8 (by decide : (8 : Int32).toInt = 8); omega) (by decide) ?_
  refine v_aload_n (n := 168) dX3_goesOn_167 rfl 0 rfl rfl ?_
  refine v_iload_n (n := 169) dX3_goesOn_168 rfl 1 rfl rfl ?_
  refine v_aload_n (n := 170) dX3_goesOn_169 rfl 2 rfl rfl ?_
  refine v_cVi (n := 173) (st := []) [.int a1, .ref (G.2.1 q2)] dX3_goesOn_170 (fun t ht => M_X3_goesOnInRight G a1 q2 hq2 μ t ht) cal_X3_goesOnInRight mw21 (show isO 32 3 from rfl) rfl rfl (Nat.le_of_ble_eq_true rfl) ⟨Nat.le_of_ble_eq_true rfl, Nat.le_of_ble_eq_true rfl⟩ rfl (fun x17 μ16 => ?_)
  exact v_zretV dX3_goesOn_173 rfl rfl
theorem M_X3_goesOn (G : GG) (a1 : Int32) (q2 : Nat) (hq2 : isO q2 1) (μ : Mem) (t : Int32 × Mem) (ht : f_X3_goesOn a1 q2 μ = some t) : GM G J_X3_goesOn yX3_goesOn [.ref (G.2.1 32), .int a1, .ref (G.2.1 q2)] μ (oI t) :=
  gm_of (J := J_X3_goesOn) (k := kI) rfl (by decide) (Nat.le_of_ble_eq_true rfl) (v_X3_goesOn G a1 q2 hq2 μ) ht rfl
set_option maxRecDepth 100000 in
set_option maxHeartbeats 4000000 in
theorem vlp_X3_firstFault_13 (G : GG) (r1v : Nat) (hr1v : isO r1v 2) (x2v : Int32) (x3v : Int32) (r4v : Nat) (hr4v : isO r4v 1) (kk : ((Mem) ⊕ (Int32 × Mem)) → Option Oc) (hx : ∀ (μ : Mem), V G J_X3_firstFault 46 [(0, .ref (G.2.1 32)), (3, .int x3v)] [] μ (kk (.inl μ)) some) (ho : ∀ t, kk (.inr t) = some (oI t)) : ∀ (n : Nat) (x5v : Int32) (μ : Mem), V G J_X3_firstFault 13 [(0, .ref (G.2.1 32)), (1, .ref (G.2.1 r1v)), (2, .int x2v), (3, .int x3v), (4, .ref (G.2.1 r4v)), (5, .int x5v)] [] μ (lp_X3_firstFault_13 r1v x2v x3v r4v n x5v μ) kk := by
  intro n
  induction n with
  | zero => intro _ _; exact v_none
  | succ n ih =>
    intro x5v μ
    rw [lp_X3_firstFault_13]
    refine v_iload (n := 15) dX3_firstFault_13 5 rfl rfl ?_
    refine v_iload_n (n := 16) dX3_firstFault_15 rfl 3 rfl rfl ?_
    refine v_icmp_ge (tgt := 46) (n := 19) dX3_firstFault_16 (by decide) rfl ?_ ?_
    · exact v_leaf (v_sub [0, 3] rfl (hx  μ))
    · refine v_aload_n (n := 20) dX3_firstFault_19 rfl 0 rfl rfl ?_
      refine v_aload_n (n := 21) dX3_firstFault_20 rfl 1 rfl rfl ?_
      refine v_getR (n := 24) (i := 0) (q2 := (r1v + 1)) dX3_firstFault_21 hr1v rfl fg_X3_20 rfl ?_
      refine v_iload_n (n := 25) dX3_firstFault_24 rfl 2 rfl rfl ?_
      refine v_iload (n := 27) dX3_firstFault_25 5 rfl rfl ?_
      refine v_iadd (n := 28) dX3_firstFault_27 rfl ?_
      refine v_iald (n := 29) dX3_firstFault_28 (ar2_0 hr1v) rfl ?_
      refine v_aload (n := 31) dX3_firstFault_29 4 rfl rfl ?_
      refine v_cVi (n := 34) (st := []) [.int (μ (r1v + 1) (x2v + x5v).toNatClampNeg), .ref (G.2.1 r4v)] dX3_firstFault_31 (fun t ht => M_X3_goesOn G (μ (r1v + 1) (x2v + x5v).toNatClampNeg) r4v hr4v μ t ht) cal_X3_goesOn mw24 (show isO 32 3 from rfl) rfl rfl (Nat.le_of_ble_eq_true rfl) ⟨Nat.le_of_ble_eq_true rfl, Nat.le_of_ble_eq_true rfl⟩ rfl (fun x4 μ3 => ?_)
      refine v_if_ne (tgt := 40) (n := 37) dX3_firstFault_34 (by decide) rfl ?_ ?_
      · refine v_iload (n := 39) dX3_firstFault_37 5 rfl rfl ?_
        exact v_iret dX3_firstFault_39 rfl (ho _)
      · refine v_iinc (n := 43) (w := 1) (fun x5 => [(5, .int x5), (0, .ref (G.2.1 32)), (1, .ref (G.2.1 r1v)), (2, .int x2v), (3, .int x3v), (4, .ref (G.2.1 r4v))]) dX3_firstFault_40 5 rfl ci_1 (by decide) (fun _ => rfl) rfl (fun x5 => ?_)
        refine v_goto (tgt := 13) dX3_firstFault_43 (by decide) ?_
        exact v_sub [1, 2, 3, 4, 5, 0] rfl (ih x5 μ3)
set_option maxRecDepth 100000 in
set_option maxHeartbeats 4000000 in
theorem v_X3_firstFault (G : GG) (q1 : Nat) (hq1 : isO q1 2) (a2 : Int32) (a3 : Int32) (q4 : Nat) (hq4 : isO q4 1) (μ : Mem) : V G J_X3_firstFault 0 [(0, .ref (G.2.1 32)), (1, .ref (G.2.1 q1)), (2, .int a2), (3, .int a3), (4, .ref (G.2.1 q4))] [] μ (f_X3_firstFault q1 a2 a3 q4 μ) kI := by
  rw [f_X3_firstFault]
  refine v_aload (n := 2) dX3_firstFault_0 4 rfl rfl ?_
  refine v_cVv (n := 5) (st := []) [] dX3_firstFault_2 (fun t ht => M_X1_begin G q4 hq4 μ t ht) cal_X1_begin mw22 hq4 rfl rfl (Nat.le_of_ble_eq_true rfl) ⟨Nat.le_of_ble_eq_true rfl, Nat.le_of_ble_eq_true rfl⟩ rfl (fun μ1 => ?_)
  refine v_aload_n (n := 6) dX3_firstFault_5 rfl 0 rfl rfl ?_
  refine v_iconst (n := 7) (v := 0) dX3_firstFault_6 ci_0 rfl ?_
  refine v_put (n := 10) (i := 0) dX3_firstFault_7 (show isO 32 3 from rfl) rfl fp_X3_16 rfl rfl rfl ?_
  refine v_lm (fun μ2 => ?_)
  refine v_iconst (n := 11) (v := 0) dX3_firstFault_10 ci_0 rfl ?_
  refine v_istore (n := 13) [(5, .int (0 : Int32)), (0, .ref (G.2.1 32)), (1, .ref (G.2.1 q1)), (2, .int a2), (3, .int a3), (4, .ref (G.2.1 q4))] dX3_firstFault_11 (by decide) rfl rfl ?_
  refine v_sub [1, 2, 3, 4, 5, 0] rfl ?_
  refine v_s1 (px := 46) (lx := (fun μ6 => [(0, .ref (G.2.1 32)), (3, .int a3)])) (mx := (fun μ6 => μ6)) (oX := oI) (fun kk hx ho => vlp_X3_firstFault_13 G q1 hq1 a2 a3 q4 hq4 kk hx ho FU (0 : Int32) μ2) (fun _ => rfl) (fun μ6 => ?_)
  refine v_aload_n (n := 47) dX3_firstFault_46 rfl 0 rfl rfl ?_
  refine v_getI (n := 50) (i := 0) dX3_firstFault_47 (show isO 32 3 from rfl) rfl fg_X3_16 rfl ?_
  refine v_bipush (n := 52) (v := 8) dX3_firstFault_50 cb_8 rfl ?_
  refine v_icmp_ne (tgt := 60) (n := 55) dX3_firstFault_52 (by decide) rfl ?_ ?_
  · refine v_bipush (n := 57) (v := -9) dX3_firstFault_55 cb_m9 rfl ?_
    refine v_goto (tgt := 61) dX3_firstFault_57 (by decide) ?_
    exact v_iret dX3_firstFault_61 rfl rfl
  · refine v_iload_n (n := 61) dX3_firstFault_60 rfl 1 rfl rfl ?_
    exact v_iret dX3_firstFault_61 rfl rfl
theorem M_X3_firstFault (G : GG) (q1 : Nat) (hq1 : isO q1 2) (a2 : Int32) (a3 : Int32) (q4 : Nat) (hq4 : isO q4 1) (μ : Mem) (t : Int32 × Mem) (ht : f_X3_firstFault q1 a2 a3 q4 μ = some t) : GM G J_X3_firstFault yX3_firstFault [.ref (G.2.1 32), .ref (G.2.1 q1), .int a2, .int a3, .ref (G.2.1 q4)] μ (oI t) :=
  gm_of (J := J_X3_firstFault) (k := kI) rfl (by decide) (Nat.le_of_ble_eq_true rfl) (v_X3_firstFault G q1 hq1 a2 a3 q4 hq4 μ) ht rfl
set_option maxRecDepth 100000 in
set_option maxHeartbeats 4000000 in
theorem v_X1_becomeLike (G : GG) (q0 : Nat) (hq0 : isO q0 1) (q1 : Nat) (hq1 : isO q1 1) (μ : Mem) : V G J_X1_becomeLike 0 [(0, .ref (G.2.1 q0)), (1, .ref (G.2.1 q1))] [] μ (f_X1_becomeLike q0 q1 μ) kV := by
  rw [f_X1_becomeLike]
  refine v_aload_n (n := 1) dX1_becomeLike_0 rfl 0 rfl rfl ?_
  refine v_aload_n (n := 2) dX1_becomeLike_1 rfl 1 rfl rfl ?_
  refine v_getI (n := 5) (i := 5) dX1_becomeLike_2 hq1 rfl fg_X1_27 rfl ?_
  refine v_put (n := 8) (i := 5) dX1_becomeLike_5 hq0 rfl fp_X1_27 rfl rfl rfl ?_
  refine v_lm (fun μ1 => ?_)
  refine v_aload_n (n := 9) dX1_becomeLike_8 rfl 0 rfl rfl ?_
  refine v_aload_n (n := 10) dX1_becomeLike_9 rfl 1 rfl rfl ?_
  refine v_getI (n := 13) (i := 6) dX1_becomeLike_10 hq1 rfl fg_X1_31 rfl ?_
  refine v_put (n := 16) (i := 6) dX1_becomeLike_13 hq0 rfl fp_X1_31 rfl rfl rfl ?_
  refine v_lm (fun μ2 => ?_)
  refine v_aload_n (n := 17) dX1_becomeLike_16 rfl 0 rfl rfl ?_
  refine v_aload_n (n := 18) dX1_becomeLike_17 rfl 1 rfl rfl ?_
  refine v_getI (n := 21) (i := 7) dX1_becomeLike_18 hq1 rfl fg_X1_34 rfl ?_
  refine v_put (n := 24) (i := 7) dX1_becomeLike_21 hq0 rfl fp_X1_34 rfl rfl rfl ?_
  refine v_lm (fun μ3 => ?_)
  refine v_aload_n (n := 25) dX1_becomeLike_24 rfl 0 rfl rfl ?_
  refine v_aload_n (n := 26) dX1_becomeLike_25 rfl 1 rfl rfl ?_
  refine v_getI (n := 29) (i := 8) dX1_becomeLike_26 hq1 rfl fg_X1_37 rfl ?_
  refine v_put (n := 32) (i := 8) dX1_becomeLike_29 hq0 rfl fp_X1_37 rfl rfl rfl ?_
  refine v_lm (fun μ4 => ?_)
  refine v_aload_n (n := 33) dX1_becomeLike_32 rfl 0 rfl rfl ?_
  refine v_aload_n (n := 34) dX1_becomeLike_33 rfl 1 rfl rfl ?_
  refine v_getI (n := 37) (i := 9) dX1_becomeLike_34 hq1 rfl fg_X1_40 rfl ?_
  refine v_put (n := 40) (i := 9) dX1_becomeLike_37 hq0 rfl fp_X1_40 rfl rfl rfl ?_
  refine v_lm (fun μ5 => ?_)
  refine v_aload_n (n := 41) dX1_becomeLike_40 rfl 1 rfl rfl ?_
  refine v_getR (n := 44) (i := 0) (q2 := (q1 + 1)) dX1_becomeLike_41 hq1 rfl fg_X1_9 rfl ?_
  refine v_iconst (n := 45) (v := 0) dX1_becomeLike_44 ci_0 rfl ?_
  refine v_aload_n (n := 46) dX1_becomeLike_45 rfl 0 rfl rfl ?_
  refine v_getR (n := 49) (i := 0) (q2 := (q0 + 1)) dX1_becomeLike_46 hq0 rfl fg_X1_9 rfl ?_
  refine v_iconst (n := 50) (v := 0) dX1_becomeLike_49 ci_0 rfl ?_
  refine v_bipush (n := 52) (v := 7) dX1_becomeLike_50 cb_7 rfl ?_
  refine v_acopy (n := 55) dX1_becomeLike_52 mw26 mw27 mw28 mw29 (ar1_0 hq1) (ar1_0 hq0) (Nat.le_of_ble_eq_true rfl) (Nat.le_of_ble_eq_true rfl) rfl ?_
  refine v_lm (fun μ6 => ?_)
  refine v_aload_n (n := 56) dX1_becomeLike_55 rfl 1 rfl rfl ?_
  refine v_getR (n := 59) (i := 1) (q2 := (q1 + 2)) dX1_becomeLike_56 hq1 rfl fg_X1_15 rfl ?_
  refine v_iconst (n := 60) (v := 0) dX1_becomeLike_59 ci_0 rfl ?_
  refine v_aload_n (n := 61) dX1_becomeLike_60 rfl 0 rfl rfl ?_
  refine v_getR (n := 64) (i := 1) (q2 := (q0 + 2)) dX1_becomeLike_61 hq0 rfl fg_X1_15 rfl ?_
  refine v_iconst (n := 65) (v := 0) dX1_becomeLike_64 ci_0 rfl ?_
  refine v_bipush (n := 67) (v := 7) dX1_becomeLike_65 cb_7 rfl ?_
  refine v_acopy (n := 70) dX1_becomeLike_67 mw26 mw27 mw28 mw29 (ar1_1 hq1) (ar1_1 hq0) (Nat.le_of_ble_eq_true rfl) (Nat.le_of_ble_eq_true rfl) rfl ?_
  refine v_lm (fun μ7 => ?_)
  refine v_aload_n (n := 71) dX1_becomeLike_70 rfl 1 rfl rfl ?_
  refine v_getR (n := 74) (i := 2) (q2 := (q1 + 3)) dX1_becomeLike_71 hq1 rfl fg_X1_18 rfl ?_
  refine v_iconst (n := 75) (v := 0) dX1_becomeLike_74 ci_0 rfl ?_
  refine v_aload_n (n := 76) dX1_becomeLike_75 rfl 0 rfl rfl ?_
  refine v_getR (n := 79) (i := 2) (q2 := (q0 + 3)) dX1_becomeLike_76 hq0 rfl fg_X1_18 rfl ?_
  refine v_iconst (n := 80) (v := 0) dX1_becomeLike_79 ci_0 rfl ?_
  refine v_bipush (n := 82) (v := 7) dX1_becomeLike_80 cb_7 rfl ?_
  refine v_acopy (n := 85) dX1_becomeLike_82 mw26 mw27 mw28 mw29 (ar1_2 hq1) (ar1_2 hq0) (Nat.le_of_ble_eq_true rfl) (Nat.le_of_ble_eq_true rfl) rfl ?_
  refine v_lm (fun μ8 => ?_)
  refine v_aload_n (n := 86) dX1_becomeLike_85 rfl 1 rfl rfl ?_
  refine v_getR (n := 89) (i := 3) (q2 := (q1 + 4)) dX1_becomeLike_86 hq1 rfl fg_X1_21 rfl ?_
  refine v_iconst (n := 90) (v := 0) dX1_becomeLike_89 ci_0 rfl ?_
  refine v_aload_n (n := 91) dX1_becomeLike_90 rfl 0 rfl rfl ?_
  refine v_getR (n := 94) (i := 3) (q2 := (q0 + 4)) dX1_becomeLike_91 hq0 rfl fg_X1_21 rfl ?_
  refine v_iconst (n := 95) (v := 0) dX1_becomeLike_94 ci_0 rfl ?_
  refine v_bipush (n := 97) (v := 7) dX1_becomeLike_95 cb_7 rfl ?_
  refine v_acopy (n := 100) dX1_becomeLike_97 mw26 mw27 mw28 mw29 (ar1_3 hq1) (ar1_3 hq0) (Nat.le_of_ble_eq_true rfl) (Nat.le_of_ble_eq_true rfl) rfl ?_
  refine v_lm (fun μ9 => ?_)
  refine v_aload_n (n := 101) dX1_becomeLike_100 rfl 1 rfl rfl ?_
  refine v_getR (n := 104) (i := 4) (q2 := (q1 + 5)) dX1_becomeLike_101 hq1 rfl fg_X1_24 rfl ?_
  refine v_iconst (n := 105) (v := 0) dX1_becomeLike_104 ci_0 rfl ?_
  refine v_aload_n (n := 106) dX1_becomeLike_105 rfl 0 rfl rfl ?_
  refine v_getR (n := 109) (i := 4) (q2 := (q0 + 5)) dX1_becomeLike_106 hq0 rfl fg_X1_24 rfl ?_
  refine v_iconst (n := 110) (v := 0) dX1_becomeLike_109 ci_0 rfl ?_
  refine v_bipush (n := 112) (v := 7) dX1_becomeLike_110 cb_7 rfl ?_
  refine v_acopy (n := 115) dX1_becomeLike_112 mw26 mw27 mw28 mw29 (ar1_4 hq1) (ar1_4 hq0) (Nat.le_of_ble_eq_true rfl) (Nat.le_of_ble_eq_true rfl) rfl ?_
  refine v_lm (fun μ10 => ?_)
  exact v_vret dX1_becomeLike_115 rfl rfl
theorem M_X1_becomeLike (G : GG) (q0 : Nat) (hq0 : isO q0 1) (q1 : Nat) (hq1 : isO q1 1) (μ : Mem) (t : Mem) (ht : f_X1_becomeLike q0 q1 μ = some t) : GM G J_X1_becomeLike yX1_becomeLike [.ref (G.2.1 q0), .ref (G.2.1 q1)] μ (oV t) :=
  gm_of (J := J_X1_becomeLike) (k := kV) rfl (by decide) (Nat.le_of_ble_eq_true rfl) (v_X1_becomeLike G q0 hq0 q1 hq1 μ) ht rfl
set_option maxRecDepth 100000 in
set_option maxHeartbeats 4000000 in
theorem vjn_X4_books_72 (G : GG) (x3v : Int32) (x4v : Int32) (r5v : Nat) (hr5v : isO r5v 2) (x6v : Int32) (μ : Mem) : V G J_X4_books 72 [(0, .ref (G.2.1 0)), (3, .int x3v), (4, .int x4v), (5, .ref (G.2.1 r5v)), (6, .int x6v)] [] μ (jn_X4_books_72 x3v x4v r5v x6v μ) kI := by
  rw [jn_X4_books_72]
  refine v_iload (n := 74) dX4_books_72 4 rfl rfl ?_
  refine v_if_eq (tgt := 84) (n := 77) dX4_books_74 (by decide) rfl ?_ ?_
  · refine v_aload_n (n := 85) dX4_books_84 rfl 0 rfl rfl ?_
    refine v_getR (n := 88) (i := 5) (q2 := 32) dX4_books_85 (show isO 0 4 from rfl) rfl fg_X4_40 rfl ?_
    refine v_aload (n := 90) dX4_books_88 3 rfl rfl ?_
    refine v_iload_n (n := 91) dX4_books_90 rfl 1 rfl rfl ?_
    refine v_iload (n := 93) dX4_books_91 2 rfl rfl ?_
    refine v_aload_n (n := 94) dX4_books_93 rfl 0 rfl rfl ?_
    refine v_getR (n := 97) (i := 2) (q2 := 8) dX4_books_94 (show isO 0 4 from rfl) rfl fg_X4_24 rfl ?_
    refine v_cVi (n := 100) (st := []) [.ref (G.2.1 r5v), .int x3v, .int x4v, .ref (G.2.1 8)] dX4_books_97 (fun t ht => M_X3_firstFault G r5v hr5v x3v x4v 8 (show isO 8 1 from rfl) μ t ht) cal_X3_firstFault mw40 (show isO 32 3 from rfl) rfl rfl (Nat.le_of_ble_eq_true rfl) ⟨Nat.le_of_ble_eq_true rfl, Nat.le_of_ble_eq_true rfl⟩ rfl (fun x10 μ9 => ?_)
    refine v_istore (n := 102) [(7, .int x10), (0, .ref (G.2.1 0)), (3, .int x3v), (4, .int x4v), (5, .ref (G.2.1 r5v)), (6, .int x6v)] dX4_books_100 (by decide) rfl rfl ?_
    refine v_iload (n := 104) dX4_books_102 0 rfl rfl ?_
    refine v_bipush (n := 106) (v := -9) dX4_books_104 cb_m9 rfl ?_
    refine v_icmp_eq (tgt := 115) (n := 109) dX4_books_106 (by decide) rfl ?_ ?_
    · refine v_aload_n (n := 116) dX4_books_115 rfl 1 rfl rfl ?_
      refine v_getR (n := 119) (i := 1) (q2 := 2) dX4_books_116 (show isO 0 4 from rfl) rfl fg_X4_20 rfl ?_
      refine v_aload_n (n := 120) dX4_books_119 rfl 1 rfl rfl ?_
      refine v_getR (n := 123) (i := 2) (q2 := 8) dX4_books_120 (show isO 0 4 from rfl) rfl fg_X4_24 rfl ?_
      refine v_cVv (n := 126) (st := []) [.ref (G.2.1 8)] dX4_books_123 (fun t ht => M_X1_becomeLike G 2 (show isO 2 1 from rfl) 8 (show isO 8 1 from rfl) μ9 t ht) cal_X1_becomeLike mw42 (show isO 2 1 from rfl) rfl rfl (Nat.le_of_ble_eq_true rfl) ⟨Nat.le_of_ble_eq_true rfl, Nat.le_of_ble_eq_true rfl⟩ rfl (fun μ11 => ?_)
      refine v_aload_n (n := 127) dX4_books_126 rfl 1 rfl rfl ?_
      refine v_iconst (n := 128) (v := 0) dX4_books_127 ci_0 rfl ?_
      refine v_put (n := 131) (i := 8) dX4_books_128 (show isO 0 4 from rfl) rfl fp_X4_82 rfl rfl rfl ?_
      refine v_lm (fun μ12 => ?_)
      refine v_aload_n (n := 132) dX4_books_131 rfl 1 rfl rfl ?_
      refine v_iconst (n := 133) (v := 0) dX4_books_132 ci_0 rfl ?_
      refine v_put (n := 136) (i := 9) dX4_books_133 (show isO 0 4 from rfl) rfl fp_X4_85 (by decide) (by decide) rfl ?_
      refine v_lm (fun μ13 => ?_)
      refine v_aload_n (n := 137) dX4_books_136 rfl 1 rfl rfl ?_
      refine v_getR (n := 140) (i := 1) (q2 := 2) dX4_books_137 (show isO 0 4 from rfl) rfl fg_X4_20 rfl ?_
      refine v_getI (n := 143) (i := 5) dX4_books_140 (show isO 2 1 from rfl) rfl fg_X4_89 rfl ?_
      refine v_aload_n (n := 144) dX4_books_143 rfl 1 rfl rfl ?_
      refine v_getR (n := 147) (i := 1) (q2 := 2) dX4_books_144 (show isO 0 4 from rfl) rfl fg_X4_20 rfl ?_
      refine v_getI (n := 150) (i := 6) dX4_books_147 (show isO 2 1 from rfl) rfl fg_X4_92 rfl ?_
      refine v_iadd (n := 151) dX4_books_150 rfl ?_
      exact v_iret dX4_books_151 rfl rfl
    · refine v_bipush (n := 111) (v := -100) dX4_books_109 cb_m100 rfl ?_
      refine v_iload (n := 113) dX4_books_111 0 rfl rfl ?_
      refine v_isub (n := 114) dX4_books_113 rfl ?_
      exact v_iret dX4_books_114 rfl rfl
  · refine v_aload_n (n := 78) dX4_books_77 rfl 0 rfl rfl ?_
    refine v_iload (n := 80) dX4_books_78 4 rfl rfl ?_
    refine v_cVi (n := 83) (st := []) [.int x6v] dX4_books_80 (fun t ht => M_X4_failed G x6v μ t ht) cal_X4_failed mw47 (show isO 0 4 from rfl) rfl rfl (Nat.le_of_ble_eq_true rfl) ⟨Nat.le_of_ble_eq_true rfl, Nat.le_of_ble_eq_true rfl⟩ rfl (fun x15 μ14 => ?_)
    exact v_iret dX4_books_83 rfl rfl
set_option maxRecDepth 100000 in
set_option maxHeartbeats 4000000 in
theorem vjn_X4_books_53 (G : GG) (x3v : Int32) (x4v : Int32) (r5v : Nat) (hr5v : isO r5v 2) (x6v : Int32) (μ : Mem) : V G J_X4_books 53 [(0, .ref (G.2.1 0)), (3, .int x3v), (4, .int x4v), (5, .ref (G.2.1 r5v)), (6, .int x6v)] [] μ (jn_X4_books_53 x3v x4v r5v x6v μ) kI := by
  rw [jn_X4_books_53]
  refine v_iload (n := 55) dX4_books_53 4 rfl rfl ?_
  refine v_if_ne (tgt := 72) (n := 58) dX4_books_55 (by decide) rfl ?_ ?_
  · refine v_aload (n := 60) dX4_books_58 3 rfl rfl ?_
    refine v_iload_n (n := 61) dX4_books_60 rfl 1 rfl rfl ?_
    refine v_iload (n := 63) dX4_books_61 2 rfl rfl ?_
    refine v_cVi (n := 66) (st := []) [.int x3v, .int x4v] dX4_books_63 (fun t ht => M_X2_hasCells G r5v hr5v x3v x4v μ t ht) cal_X2_hasCells mw48 hr5v rfl rfl (Nat.le_of_ble_eq_true rfl) ⟨Nat.le_of_ble_eq_true rfl, Nat.le_of_ble_eq_true rfl⟩ rfl (fun x17 μ16 => ?_)
    refine v_if_ne (tgt := 72) (n := 69) dX4_books_66 (by decide) rfl ?_ ?_
    · refine v_iconst (n := 70) (v := 3) dX4_books_69 ci_3 rfl ?_
      refine v_istore (n := 72) [(6, .int (3 : Int32)), (0, .ref (G.2.1 0)), (3, .int x3v), (4, .int x4v), (5, .ref (G.2.1 r5v))] dX4_books_70 (by decide) rfl rfl ?_
      exact v_sub [1, 2, 3, 4, 0] rfl (vjn_X4_books_72 G x3v x4v r5v hr5v (3 : Int32) μ16)
    · exact vjn_X4_books_72 G x3v x4v r5v hr5v x6v μ16
  · exact vjn_X4_books_72 G x3v x4v r5v hr5v x6v μ
set_option maxRecDepth 100000 in
set_option maxHeartbeats 4000000 in
theorem v_X4_books (G : GG) (a1 : Int32) (a2 : Int32) (a3 : Int32) (a4 : Int32) (μ : Mem) : V G J_X4_books 0 [(0, .ref (G.2.1 0)), (1, .int a1), (2, .int a2), (3, .int a3), (4, .int a4)] [] μ (f_X4_books a1 a2 a3 a4 μ) kI := by
  rw [f_X4_books]
  refine v_aload_n (n := 1) dX4_books_0 rfl 0 rfl rfl ?_
  refine v_iconst (n := 2) (v := 0) dX4_books_1 ci_0 rfl ?_
  refine v_put (n := 5) (i := 11) dX4_books_2 (show isO 0 4 from rfl) rfl fp_X4_52 rfl rfl rfl ?_
  refine v_lm (fun μ1 => ?_)
  refine v_iload_n (n := 6) dX4_books_5 rfl 1 rfl rfl ?_
  refine v_cSi (n := 9) (st := []) [.int a1] dX4_books_6 (fun t ht => M_X4_isSheet G a1 μ1 t ht) cal_X4_isSheet mw34 rfl rfl (Nat.le_of_ble_eq_true rfl) ⟨Nat.le_of_ble_eq_true rfl, Nat.le_of_ble_eq_true rfl⟩ rfl (fun x3 μ2 => ?_)
  refine v_if_ne (tgt := 14) (n := 12) dX4_books_9 (by decide) rfl ?_ ?_
  · refine v_iconst (n := 13) (v := -1) dX4_books_12 ci_m1 rfl ?_
    exact v_iret dX4_books_13 rfl rfl
  · refine v_iload_n (n := 15) dX4_books_14 rfl 2 rfl rfl ?_
    refine v_cSi (n := 18) (st := []) [.int a2] dX4_books_15 (fun t ht => M_X4_isLane G a2 μ2 t ht) cal_X4_isLane mw35 rfl rfl (Nat.le_of_ble_eq_true rfl) ⟨Nat.le_of_ble_eq_true rfl, Nat.le_of_ble_eq_true rfl⟩ rfl (fun x5 μ4 => ?_)
    refine v_if_ne (tgt := 24) (n := 21) dX4_books_18 (by decide) rfl ?_ ?_
    · refine v_bipush (n := 23) (v := -2) dX4_books_21 cb_m2 rfl ?_
      exact v_iret dX4_books_23 rfl rfl
    · refine v_aload_n (n := 25) dX4_books_24 rfl 0 rfl rfl ?_
      refine v_getR (n := 28) (i := 0) (q2 := 1) dX4_books_25 (show isO 0 4 from rfl) rfl fg_X4_13 rfl ?_
      refine v_iload_n (n := 29) dX4_books_28 rfl 1 rfl rfl ?_
      refine v_aald (n := 30) dX4_books_29 rfl (fun q6 hq6 => ?_)
      refine v_astore (n := 32) [(5, .ref (G.2.1 q6)), (0, .ref (G.2.1 0)), (1, .int a1), (2, .int a2), (3, .int a3), (4, .int a4)] dX4_books_30 (by decide) rfl rfl ?_
      refine v_aload (n := 34) dX4_books_32 0 rfl rfl ?_
      refine v_iload_n (n := 35) dX4_books_34 rfl 3 rfl rfl ?_
      refine v_cVi (n := 38) (st := []) [.int a2] dX4_books_35 (fun t ht => M_X2_faultAs G q6 hq6 a2 μ4 t ht) cal_X2_faultAs mw37 hq6 rfl rfl (Nat.le_of_ble_eq_true rfl) ⟨Nat.le_of_ble_eq_true rfl, Nat.le_of_ble_eq_true rfl⟩ rfl (fun x8 μ7 => ?_)
      refine v_istore (n := 40) [(6, .int x8), (5, .ref (G.2.1 q6)), (0, .ref (G.2.1 0)), (1, .int a1), (2, .int a2), (3, .int a3), (4, .int a4)] dX4_books_38 (by decide) rfl rfl ?_
      refine v_iload (n := 42) dX4_books_40 0 rfl rfl ?_
      refine v_if_ne (tgt := 53) (n := 45) dX4_books_42 (by decide) rfl ?_ ?_
      · refine v_iload (n := 47) dX4_books_45 6 rfl rfl ?_
        refine v_if_ge (tgt := 53) (n := 50) dX4_books_47 (by decide) rfl ?_ ?_
        · exact v_sub [2, 5, 6, 1, 0] rfl (vjn_X4_books_53 G a3 a4 q6 hq6 x8 μ7)
        · refine v_iconst (n := 51) (v := 4) dX4_books_50 ci_4 rfl ?_
          refine v_istore (n := 53) [(6, .int (4 : Int32)), (5, .ref (G.2.1 q6)), (0, .ref (G.2.1 0)), (1, .int a1), (2, .int a2), (3, .int a3), (4, .int a4)] dX4_books_51 (by decide) rfl rfl ?_
          exact v_sub [2, 5, 6, 1, 0] rfl (vjn_X4_books_53 G a3 a4 q6 hq6 (4 : Int32) μ7)
      · exact v_sub [2, 5, 6, 1, 0] rfl (vjn_X4_books_53 G a3 a4 q6 hq6 x8 μ7)
theorem M_X4_books (G : GG) (a1 : Int32) (a2 : Int32) (a3 : Int32) (a4 : Int32) (μ : Mem) (t : Int32 × Mem) (ht : f_X4_books a1 a2 a3 a4 μ = some t) : GM G J_X4_books yX4_books [.ref (G.2.1 0), .int a1, .int a2, .int a3, .int a4] μ (oI t) :=
  gm_of (J := J_X4_books) (k := kI) rfl (by decide) (Nat.le_of_ble_eq_true rfl) (v_X4_books G a1 a2 a3 a4 μ) ht rfl
set_option maxRecDepth 100000 in
set_option maxHeartbeats 4000000 in
theorem v_X1_hasLeft (G : GG) (q0 : Nat) (hq0 : isO q0 1) (a1 : Int32) (μ : Mem) : V G J_X1_hasLeft 0 [(0, .ref (G.2.1 q0)), (1, .int a1)] [] μ (f_X1_hasLeft q0 a1 μ) kI := by
  rw [f_X1_hasLeft]
  refine v_iload_n (n := 1) dX1_hasLeft_0 rfl 1 rfl rfl ?_
  refine v_if_lt (tgt := 16) (n := 4) dX1_hasLeft_1 (by decide) rfl ?_ ?_
  · refine v_iconst (n := 17) (v := 0) dX1_hasLeft_16 ci_0 rfl ?_
    exact v_zret dX1_hasLeft_17 rfl (by decide) rfl
  · refine v_iload_n (n := 5) dX1_hasLeft_4 rfl 1 rfl rfl ?_
    refine v_aload_n (n := 6) dX1_hasLeft_5 rfl 0 rfl rfl ?_
    refine v_getI (n := 9) (i := 5) dX1_hasLeft_6 hq0 rfl fg_X1_27 rfl ?_
    refine v_icmp_ge (tgt := 16) (n := 12) dX1_hasLeft_9 (by decide) rfl ?_ ?_
    · refine v_iconst (n := 17) (v := 0) dX1_hasLeft_16 ci_0 rfl ?_
      exact v_zret dX1_hasLeft_17 rfl (by decide) rfl
    · refine v_iconst (n := 13) (v := 1) dX1_hasLeft_12 ci_1 rfl ?_
      refine v_goto (tgt := 17) dX1_hasLeft_13 (by decide) ?_
      exact v_zret dX1_hasLeft_17 rfl (by decide) rfl
theorem M_X1_hasLeft (G : GG) (q0 : Nat) (hq0 : isO q0 1) (a1 : Int32) (μ : Mem) (t : Int32 × Mem) (ht : f_X1_hasLeft q0 a1 μ = some t) : GM G J_X1_hasLeft yX1_hasLeft [.ref (G.2.1 q0), .int a1] μ (oI t) :=
  gm_of (J := J_X1_hasLeft) (k := kI) rfl (by decide) (Nat.le_of_ble_eq_true rfl) (v_X1_hasLeft G q0 hq0 a1 μ) ht rfl
set_option maxRecDepth 100000 in
set_option maxHeartbeats 4000000 in
theorem v_X1_leftLength (G : GG) (q0 : Nat) (hq0 : isO q0 1) (a1 : Int32) (μ : Mem) : V G J_X1_leftLength 0 [(0, .ref (G.2.1 q0)), (1, .int a1)] [] μ (f_X1_leftLength q0 a1 μ) kI := by
  rw [f_X1_leftLength]
  refine v_aload_n (n := 1) dX1_leftLength_0 rfl 0 rfl rfl ?_
  refine v_getR (n := 4) (i := 0) (q2 := (q0 + 1)) dX1_leftLength_1 hq0 rfl fg_X1_9 rfl ?_
  refine v_iload_n (n := 5) dX1_leftLength_4 rfl 1 rfl rfl ?_
  refine v_iald (n := 6) dX1_leftLength_5 (ar1_0 hq0) rfl ?_
  refine v_lt (fun x1 => ?_)
  refine v_swif ?_ (fun hs0 => ?_)
  · refine v_lkp (tgt := 41) dX1_leftLength_6 (by decide) rfl (by decide) ?_
    refine v_aload_n (n := 42) dX1_leftLength_41 rfl 0 rfl rfl ?_
    refine v_getR (n := 45) (i := 1) (q2 := (q0 + 2)) dX1_leftLength_42 hq0 rfl fg_X1_15 rfl ?_
    refine v_iload_n (n := 46) dX1_leftLength_45 rfl 1 rfl rfl ?_
    refine v_iald (n := 47) dX1_leftLength_46 (ar1_1 hq0) rfl ?_
    refine v_iconst (n := 48) (v := 1) dX1_leftLength_47 ci_1 rfl ?_
    refine v_iadd (n := 49) dX1_leftLength_48 rfl ?_
    exact v_iret dX1_leftLength_49 rfl rfl
  refine v_swif ?_ (fun hs1 => ?_)
  · refine v_lkp (tgt := 32) dX1_leftLength_6 (by decide) rfl (by decide) ?_
    refine v_iconst (n := 33) (v := 2) dX1_leftLength_32 ci_2 rfl ?_
    refine v_aload_n (n := 34) dX1_leftLength_33 rfl 0 rfl rfl ?_
    refine v_getR (n := 37) (i := 1) (q2 := (q0 + 2)) dX1_leftLength_34 hq0 rfl fg_X1_15 rfl ?_
    refine v_iload_n (n := 38) dX1_leftLength_37 rfl 1 rfl rfl ?_
    refine v_iald (n := 39) dX1_leftLength_38 (ar1_1 hq0) rfl ?_
    refine v_imul (n := 40) dX1_leftLength_39 rfl ?_
    exact v_iret dX1_leftLength_40 rfl rfl
  refine v_lkp (tgt := 50) (off := 44) dX1_leftLength_6 (by decide) (by show Op.lookupswitch.offset _ _ _ = _; rw [lv_osw hs0 (by decide : (1 : Int32).toInt = 1), lv_osw hs1 (by decide : (2 : Int32).toInt = 2)]; rfl) (by decide) ?_
  refine v_aload_n (n := 51) dX1_leftLength_50 rfl 0 rfl rfl ?_
  refine v_getR (n := 54) (i := 1) (q2 := (q0 + 2)) dX1_leftLength_51 hq0 rfl fg_X1_15 rfl ?_
  refine v_iload_n (n := 55) dX1_leftLength_54 rfl 1 rfl rfl ?_
  refine v_iald (n := 56) dX1_leftLength_55 (ar1_1 hq0) rfl ?_
  exact v_iret dX1_leftLength_56 rfl rfl
theorem M_X1_leftLength (G : GG) (q0 : Nat) (hq0 : isO q0 1) (a1 : Int32) (μ : Mem) (t : Int32 × Mem) (ht : f_X1_leftLength q0 a1 μ = some t) : GM G J_X1_leftLength yX1_leftLength [.ref (G.2.1 q0), .int a1] μ (oI t) :=
  gm_of (J := J_X1_leftLength) (k := kI) rfl (by decide) (Nat.le_of_ble_eq_true rfl) (v_X1_leftLength G q0 hq0 a1 μ) ht rfl
set_option maxRecDepth 100000 in
set_option maxHeartbeats 4000000 in
theorem v_X1_hasRight (G : GG) (q0 : Nat) (hq0 : isO q0 1) (a1 : Int32) (μ : Mem) : V G J_X1_hasRight 0 [(0, .ref (G.2.1 q0)), (1, .int a1)] [] μ (f_X1_hasRight q0 a1 μ) kI := by
  rw [f_X1_hasRight]
  refine v_iload_n (n := 1) dX1_hasRight_0 rfl 1 rfl rfl ?_
  refine v_if_lt (tgt := 16) (n := 4) dX1_hasRight_1 (by decide) rfl ?_ ?_
  · refine v_iconst (n := 17) (v := 0) dX1_hasRight_16 ci_0 rfl ?_
    exact v_zret dX1_hasRight_17 rfl (by decide) rfl
  · refine v_iload_n (n := 5) dX1_hasRight_4 rfl 1 rfl rfl ?_
    refine v_aload_n (n := 6) dX1_hasRight_5 rfl 0 rfl rfl ?_
    refine v_getI (n := 9) (i := 6) dX1_hasRight_6 hq0 rfl fg_X1_31 rfl ?_
    refine v_icmp_ge (tgt := 16) (n := 12) dX1_hasRight_9 (by decide) rfl ?_ ?_
    · refine v_iconst (n := 17) (v := 0) dX1_hasRight_16 ci_0 rfl ?_
      exact v_zret dX1_hasRight_17 rfl (by decide) rfl
    · refine v_iconst (n := 13) (v := 1) dX1_hasRight_12 ci_1 rfl ?_
      refine v_goto (tgt := 17) dX1_hasRight_13 (by decide) ?_
      exact v_zret dX1_hasRight_17 rfl (by decide) rfl
theorem M_X1_hasRight (G : GG) (q0 : Nat) (hq0 : isO q0 1) (a1 : Int32) (μ : Mem) (t : Int32 × Mem) (ht : f_X1_hasRight q0 a1 μ = some t) : GM G J_X1_hasRight yX1_hasRight [.ref (G.2.1 q0), .int a1] μ (oI t) :=
  gm_of (J := J_X1_hasRight) (k := kI) rfl (by decide) (Nat.le_of_ble_eq_true rfl) (v_X1_hasRight G q0 hq0 a1 μ) ht rfl
set_option maxRecDepth 100000 in
set_option maxHeartbeats 4000000 in
theorem vjn_X1_hasPair_74 (G : GG) (x6v : Int32) (s0v : Int32) (μ : Mem) : V G J_X1_hasPair 74 [(6, .int x6v)] [.int s0v] μ (jn_X1_hasPair_74 x6v s0v μ) kI := by
  rw [jn_X1_hasPair_74]
  refine v_istore (n := 76) [(7, .int s0v), (6, .int x6v)] dX1_hasPair_74 (by decide) rfl rfl ?_
  refine v_iload (n := 78) dX1_hasPair_76 1 rfl rfl ?_
  refine v_if_eq (tgt := 90) (n := 81) dX1_hasPair_78 (by decide) rfl ?_ ?_
  · refine v_iconst (n := 91) (v := 0) dX1_hasPair_90 ci_0 rfl ?_
    exact v_zret dX1_hasPair_91 rfl (by decide) rfl
  · refine v_iload (n := 83) dX1_hasPair_81 0 rfl rfl ?_
    refine v_if_eq (tgt := 90) (n := 86) dX1_hasPair_83 (by decide) rfl ?_ ?_
    · refine v_iconst (n := 91) (v := 0) dX1_hasPair_90 ci_0 rfl ?_
      exact v_zret dX1_hasPair_91 rfl (by decide) rfl
    · refine v_iconst (n := 87) (v := 1) dX1_hasPair_86 ci_1 rfl ?_
      refine v_goto (tgt := 91) dX1_hasPair_87 (by decide) ?_
      exact v_zret dX1_hasPair_91 rfl (by decide) rfl
set_option maxRecDepth 100000 in
set_option maxHeartbeats 4000000 in
theorem vjn_X1_hasPair_69 (G : GG) (x6v : Int32) (μ : Mem) : V G J_X1_hasPair 69 [(6, .int x6v)] [] μ (jn_X1_hasPair_69 x6v μ) kI := by
  rw [jn_X1_hasPair_69]
  refine v_iconst (n := 70) (v := 1) dX1_hasPair_69 ci_1 rfl ?_
  refine v_goto (tgt := 74) dX1_hasPair_70 (by decide) ?_
  exact vjn_X1_hasPair_74 G x6v (1 : Int32) μ
set_option maxRecDepth 100000 in
set_option maxHeartbeats 4000000 in
theorem vjn_X1_hasPair_73 (G : GG) (x6v : Int32) (μ : Mem) : V G J_X1_hasPair 73 [(6, .int x6v)] [] μ (jn_X1_hasPair_73 x6v μ) kI := by
  rw [jn_X1_hasPair_73]
  refine v_iconst (n := 74) (v := 0) dX1_hasPair_73 ci_0 rfl ?_
  exact vjn_X1_hasPair_74 G x6v (0 : Int32) μ
set_option maxRecDepth 100000 in
set_option maxHeartbeats 4000000 in
theorem vjn_X1_hasPair_43 (G : GG) (r0v : Nat) (hr0v : isO r0v 1) (x3v : Int32) (x5v : Int32) (s0v : Int32) (μ : Mem) : V G J_X1_hasPair 43 [(0, .ref (G.2.1 r0v)), (3, .int x3v), (5, .int x5v)] [.int s0v] μ (jn_X1_hasPair_43 r0v x3v x5v s0v μ) kI := by
  rw [jn_X1_hasPair_43]
  refine v_istore (n := 45) [(6, .int s0v), (0, .ref (G.2.1 r0v)), (3, .int x3v), (5, .int x5v)] dX1_hasPair_43 (by decide) rfl rfl ?_
  refine v_iload (n := 47) dX1_hasPair_45 3 rfl rfl ?_
  refine v_if_eq (tgt := 69) (n := 50) dX1_hasPair_47 (by decide) rfl ?_ ?_
  · exact v_sub [0] rfl (vjn_X1_hasPair_69 G s0v μ)
  · refine v_aload_n (n := 51) dX1_hasPair_50 rfl 1 rfl rfl ?_
    refine v_iload_n (n := 52) dX1_hasPair_51 rfl 2 rfl rfl ?_
    refine v_cVi (n := 55) (st := []) [.int x3v] dX1_hasPair_52 (fun t ht => M_X1_hasRight G r0v hr0v x3v μ t ht) cal_X1_hasRight mw49 hr0v rfl rfl (Nat.le_of_ble_eq_true rfl) ⟨Nat.le_of_ble_eq_true rfl, Nat.le_of_ble_eq_true rfl⟩ rfl (fun x4 μ3 => ?_)
    refine v_if_eq (tgt := 73) (n := 58) dX1_hasPair_55 (by decide) rfl ?_ ?_
    · exact v_sub [0] rfl (vjn_X1_hasPair_73 G s0v μ3)
    · refine v_iload (n := 60) dX1_hasPair_58 3 rfl rfl ?_
      refine v_aload_n (n := 61) dX1_hasPair_60 rfl 1 rfl rfl ?_
      refine v_getI (n := 64) (i := 6) dX1_hasPair_61 hr0v rfl fg_X1_31 rfl ?_
      refine v_iload_n (n := 65) dX1_hasPair_64 rfl 2 rfl rfl ?_
      refine v_isub (n := 66) dX1_hasPair_65 rfl ?_
      refine v_icmp_gt (tgt := 73) (n := 69) dX1_hasPair_66 (by decide) rfl ?_ ?_
      · exact v_sub [0] rfl (vjn_X1_hasPair_73 G s0v μ3)
      · exact v_sub [0] rfl (vjn_X1_hasPair_69 G s0v μ3)
set_option maxRecDepth 100000 in
set_option maxHeartbeats 4000000 in
theorem vjn_X1_hasPair_38 (G : GG) (r0v : Nat) (hr0v : isO r0v 1) (x3v : Int32) (x5v : Int32) (μ : Mem) : V G J_X1_hasPair 38 [(0, .ref (G.2.1 r0v)), (3, .int x3v), (5, .int x5v)] [] μ (jn_X1_hasPair_38 r0v x3v x5v μ) kI := by
  rw [jn_X1_hasPair_38]
  refine v_iconst (n := 39) (v := 1) dX1_hasPair_38 ci_1 rfl ?_
  refine v_goto (tgt := 43) dX1_hasPair_39 (by decide) ?_
  exact vjn_X1_hasPair_43 G r0v hr0v x3v x5v (1 : Int32) μ
set_option maxRecDepth 100000 in
set_option maxHeartbeats 4000000 in
theorem vjn_X1_hasPair_42 (G : GG) (r0v : Nat) (hr0v : isO r0v 1) (x3v : Int32) (x5v : Int32) (μ : Mem) : V G J_X1_hasPair 42 [(0, .ref (G.2.1 r0v)), (3, .int x3v), (5, .int x5v)] [] μ (jn_X1_hasPair_42 r0v x3v x5v μ) kI := by
  rw [jn_X1_hasPair_42]
  refine v_iconst (n := 43) (v := 0) dX1_hasPair_42 ci_0 rfl ?_
  exact vjn_X1_hasPair_43 G r0v hr0v x3v x5v (0 : Int32) μ
set_option maxRecDepth 100000 in
set_option maxHeartbeats 4000000 in
theorem v_X1_hasPair (G : GG) (q0 : Nat) (hq0 : isO q0 1) (a1 : Int32) (a2 : Int32) (a3 : Int32) (μ : Mem) : V G J_X1_hasPair 0 [(0, .ref (G.2.1 q0)), (1, .int a1), (2, .int a2), (3, .int a3)] [] μ (f_X1_hasPair q0 a1 a2 a3 μ) kI := by
  rw [f_X1_hasPair]
  refine v_gets (n := 3) 0 dX1_hasPair_0 (by decide) (by decide) rfl ?_
  refine v_iload_n (n := 4) dX1_hasPair_3 rfl 1 rfl rfl ?_
  refine v_sald (n := 5) dX1_hasPair_4 (by decide) rfl ?_
  refine v_lt (fun x1 => ?_)
  refine v_istore (n := 7) [(4, .int x1), (0, .ref (G.2.1 q0)), (1, .int a1), (2, .int a2), (3, .int a3)] dX1_hasPair_5 (by decide) rfl rfl ?_
  refine v_gets (n := 10) 1 dX1_hasPair_7 (by decide) (by decide) rfl ?_
  refine v_iload_n (n := 11) dX1_hasPair_10 rfl 2 rfl rfl ?_
  refine v_sald (n := 12) dX1_hasPair_11 (by decide) rfl ?_
  refine v_lt (fun x2 => ?_)
  refine v_istore (n := 14) [(5, .int x2), (4, .int x1), (0, .ref (G.2.1 q0)), (1, .int a1), (2, .int a2), (3, .int a3)] dX1_hasPair_12 (by decide) rfl rfl ?_
  refine v_iload (n := 16) dX1_hasPair_14 1 rfl rfl ?_
  refine v_if_eq (tgt := 38) (n := 19) dX1_hasPair_16 (by decide) rfl ?_ ?_
  · exact v_sub [2, 5, 0] rfl (vjn_X1_hasPair_38 G q0 hq0 a3 x2 μ)
  · refine v_aload_n (n := 20) dX1_hasPair_19 rfl 2 rfl rfl ?_
    refine v_iload_n (n := 21) dX1_hasPair_20 rfl 4 rfl rfl ?_
    refine v_cVi (n := 24) (st := []) [.int a2] dX1_hasPair_21 (fun t ht => M_X1_hasLeft G q0 hq0 a2 μ t ht) cal_X1_hasLeft mw50 hq0 rfl rfl (Nat.le_of_ble_eq_true rfl) ⟨Nat.le_of_ble_eq_true rfl, Nat.le_of_ble_eq_true rfl⟩ rfl (fun x6 μ5 => ?_)
    refine v_if_eq (tgt := 42) (n := 27) dX1_hasPair_24 (by decide) rfl ?_ ?_
    · exact v_sub [2, 5, 0] rfl (vjn_X1_hasPair_42 G q0 hq0 a3 x2 μ5)
    · refine v_iload (n := 29) dX1_hasPair_27 1 rfl rfl ?_
      refine v_aload_n (n := 30) dX1_hasPair_29 rfl 2 rfl rfl ?_
      refine v_getI (n := 33) (i := 5) dX1_hasPair_30 hq0 rfl fg_X1_27 rfl ?_
      refine v_iload_n (n := 34) dX1_hasPair_33 rfl 4 rfl rfl ?_
      refine v_isub (n := 35) dX1_hasPair_34 rfl ?_
      refine v_icmp_gt (tgt := 42) (n := 38) dX1_hasPair_35 (by decide) rfl ?_ ?_
      · exact v_sub [2, 5, 0] rfl (vjn_X1_hasPair_42 G q0 hq0 a3 x2 μ5)
      · exact v_sub [2, 5, 0] rfl (vjn_X1_hasPair_38 G q0 hq0 a3 x2 μ5)
theorem M_X1_hasPair (G : GG) (q0 : Nat) (hq0 : isO q0 1) (a1 : Int32) (a2 : Int32) (a3 : Int32) (μ : Mem) (t : Int32 × Mem) (ht : f_X1_hasPair q0 a1 a2 a3 μ = some t) : GM G J_X1_hasPair yX1_hasPair [.ref (G.2.1 q0), .int a1, .int a2, .int a3] μ (oI t) :=
  gm_of (J := J_X1_hasPair) (k := kI) rfl (by decide) (Nat.le_of_ble_eq_true rfl) (v_X1_hasPair G q0 hq0 a1 a2 a3 μ) ht rfl
set_option maxRecDepth 100000 in
set_option maxHeartbeats 4000000 in
theorem v_X1_anchorSet (G : GG) (a0 : Int32) (μ : Mem) : V G J_X1_anchorSet 0 [(0, .int a0)] [] μ (f_X1_anchorSet a0 μ) kI := by
  rw [f_X1_anchorSet]
  refine v_iload_n (n := 1) dX1_anchorSet_0 rfl 0 rfl rfl ?_
  refine v_iconst (n := 2) (v := 4) dX1_anchorSet_1 ci_4 rfl ?_
  refine v_icmp_ne (tgt := 9) (n := 5) dX1_anchorSet_2 (by decide) rfl ?_ ?_
  · refine v_iconst (n := 6) (v := 0) dX1_anchorSet_5 ci_0 rfl ?_
    refine v_goto (tgt := 12) dX1_anchorSet_6 (by decide) ?_
    exact v_iret dX1_anchorSet_12 rfl rfl
  · refine v_iconst (n := 10) (v := 1) dX1_anchorSet_9 ci_1 rfl ?_
    refine v_iload_n (n := 11) dX1_anchorSet_10 rfl 0 rfl rfl ?_
    refine v_ishl (n := 12) dX1_anchorSet_11 rfl ?_
    exact v_iret dX1_anchorSet_12 rfl rfl
theorem M_X1_anchorSet (G : GG) (a0 : Int32) (μ : Mem) (t : Int32 × Mem) (ht : f_X1_anchorSet a0 μ = some t) : GM G J_X1_anchorSet yX1_anchorSet [.int a0] μ (oI t) :=
  gm_of (J := J_X1_anchorSet) (k := kI) rfl (by decide) (Nat.le_of_ble_eq_true rfl) (v_X1_anchorSet G a0 μ) ht rfl
set_option maxRecDepth 100000 in
set_option maxHeartbeats 4000000 in
theorem vjn_X1_pairCost_164 (G : GG) (x4v : Int32) (x6v : Int32) (x8v : Int32) (s0v : Int32) (μ : Mem) : V G J_X1_pairCost 164 [(4, .int x4v), (6, .int x6v), (8, .int x8v)] [.int s0v] μ (jn_X1_pairCost_164 x4v x6v x8v s0v μ) kI := by
  rw [jn_X1_pairCost_164]
  refine v_istore (n := 166) [(9, .int s0v), (4, .int x4v), (6, .int x6v), (8, .int x8v)] dX1_pairCost_164 (by decide) rfl rfl ?_
  refine v_iload (n := 168) dX1_pairCost_166 1 rfl rfl ?_
  refine v_iload (n := 170) dX1_pairCost_168 2 rfl rfl ?_
  refine v_isub (n := 171) dX1_pairCost_170 rfl ?_
  refine v_mabs (n := 174) dX1_pairCost_171 mw53 mw54 mw55 cwm_abs (Nat.le_of_ble_eq_true rfl) (Nat.le_of_ble_eq_true rfl) rfl ?_
  refine v_iload (n := 176) dX1_pairCost_174 0 rfl rfl ?_
  refine v_iadd (n := 177) dX1_pairCost_176 rfl ?_
  refine v_iload (n := 179) dX1_pairCost_177 3 rfl rfl ?_
  refine v_iadd (n := 180) dX1_pairCost_179 rfl ?_
  exact v_iret dX1_pairCost_180 rfl rfl
set_option maxRecDepth 100000 in
set_option maxHeartbeats 4000000 in
theorem vjn_X1_pairCost_152 (G : GG) (x4v : Int32) (x5v : Int32) (x6v : Int32) (x7v : Int32) (x8v : Int32) (μ : Mem) : V G J_X1_pairCost 152 [(4, .int x4v), (5, .int x5v), (6, .int x6v), (7, .int x7v), (8, .int x8v)] [] μ (jn_X1_pairCost_152 x4v x5v x6v x7v x8v μ) kI := by
  rw [jn_X1_pairCost_152]
  refine v_iload (n := 154) dX1_pairCost_152 1 rfl rfl ?_
  refine v_iload (n := 156) dX1_pairCost_154 3 rfl rfl ?_
  refine v_icmp_ne (tgt := 163) (n := 159) dX1_pairCost_156 (by decide) rfl ?_ ?_
  · refine v_iconst (n := 160) (v := 0) dX1_pairCost_159 ci_0 rfl ?_
    refine v_goto (tgt := 164) dX1_pairCost_160 (by decide) ?_
    exact v_sub [0, 2, 4] rfl (vjn_X1_pairCost_164 G x4v x6v x8v (0 : Int32) μ)
  · refine v_iconst (n := 164) (v := 3) dX1_pairCost_163 ci_3 rfl ?_
    exact v_sub [0, 2, 4] rfl (vjn_X1_pairCost_164 G x4v x6v x8v (3 : Int32) μ)
set_option maxRecDepth 100000 in
set_option maxHeartbeats 4000000 in
theorem vjn_X1_pairCost_112 (G : GG) (r0v : Nat) (hr0v : isO r0v 1) (x1v : Int32) (x3v : Int32) (x4v : Int32) (x5v : Int32) (x6v : Int32) (x7v : Int32) (x8v : Int32) (μ : Mem) : V G J_X1_pairCost 112 [(0, .ref (G.2.1 r0v)), (1, .int x1v), (3, .int x3v), (4, .int x4v), (5, .int x5v), (6, .int x6v), (7, .int x7v), (8, .int x8v)] [] μ (jn_X1_pairCost_112 r0v x1v x3v x4v x5v x6v x7v x8v μ) kI := by
  rw [jn_X1_pairCost_112]
  refine v_iload_n (n := 113) dX1_pairCost_112 rfl 1 rfl rfl ?_
  refine v_iconst (n := 114) (v := 4) dX1_pairCost_113 ci_4 rfl ?_
  refine v_icmp_ne (tgt := 152) (n := 117) dX1_pairCost_114 (by decide) rfl ?_ ?_
  · refine v_iload (n := 119) dX1_pairCost_117 5 rfl rfl ?_
    refine v_aload_n (n := 120) dX1_pairCost_119 rfl 0 rfl rfl ?_
    refine v_getR (n := 123) (i := 3) (q2 := (r0v + 4)) dX1_pairCost_120 hr0v rfl fg_X1_21 rfl ?_
    refine v_iload_n (n := 124) dX1_pairCost_123 rfl 2 rfl rfl ?_
    refine v_iconst (n := 125) (v := 1) dX1_pairCost_124 ci_1 rfl ?_
    refine v_iadd (n := 126) dX1_pairCost_125 rfl ?_
    refine v_iald (n := 127) dX1_pairCost_126 (ar1_3 hr0v) rfl ?_
    refine v_iadd (n := 128) dX1_pairCost_127 rfl ?_
    refine v_lt (fun x8 => ?_)
    refine v_istore (n := 130) [(6, .int x8), (0, .ref (G.2.1 r0v)), (1, .int x1v), (3, .int x3v), (4, .int x4v), (5, .int x5v), (7, .int x7v), (8, .int x8v)] dX1_pairCost_128 (by decide) rfl rfl ?_
    refine v_iload (n := 132) dX1_pairCost_130 6 rfl rfl ?_
    refine v_aload_n (n := 133) dX1_pairCost_132 rfl 1 rfl rfl ?_
    refine v_getR (n := 136) (i := 4) (q2 := (r0v + 5)) dX1_pairCost_133 hr0v rfl fg_X1_24 rfl ?_
    refine v_iload_n (n := 137) dX1_pairCost_136 rfl 3 rfl rfl ?_
    refine v_iconst (n := 138) (v := 1) dX1_pairCost_137 ci_1 rfl ?_
    refine v_iadd (n := 139) dX1_pairCost_138 rfl ?_
    refine v_iald (n := 140) dX1_pairCost_139 (ar1_4 hr0v) rfl ?_
    refine v_cSi (n := 143) (st := [.int x7v]) [.int (μ (r0v + 5) (x3v + (1 : Int32)).toNatClampNeg)] dX1_pairCost_140 (fun t ht => M_X1_anchorSet G (μ (r0v + 5) (x3v + (1 : Int32)).toNatClampNeg) μ t ht) cal_X1_anchorSet mw52 rfl rfl (Nat.le_of_ble_eq_true rfl) ⟨Nat.le_of_ble_eq_true rfl, Nat.le_of_ble_eq_true rfl⟩ rfl (fun x10 μ9 => ?_)
    refine v_ior (n := 144) dX1_pairCost_143 rfl ?_
    refine v_lt (fun x11 => ?_)
    refine v_istore (n := 146) [(7, .int x11), (6, .int x8), (0, .ref (G.2.1 r0v)), (1, .int x1v), (3, .int x3v), (4, .int x4v), (5, .int x5v), (8, .int x8v)] dX1_pairCost_144 (by decide) rfl rfl ?_
    refine v_aload_n (n := 147) dX1_pairCost_146 rfl 2 rfl rfl ?_
    refine v_getI (n := 150) (i := 8) dX1_pairCost_147 hr0v rfl fg_X1_37 rfl ?_
    refine v_lt (fun x12 => ?_)
    refine v_istore (n := 152) [(8, .int x12), (7, .int x11), (6, .int x8), (0, .ref (G.2.1 r0v)), (1, .int x1v), (3, .int x3v), (4, .int x4v), (5, .int x5v)] dX1_pairCost_150 (by decide) rfl rfl ?_
    exact v_sub [6, 7, 2, 1, 0] rfl (vjn_X1_pairCost_152 G x4v x5v x8 x11 x12 μ9)
  · exact v_sub [3, 4, 5, 6, 7] rfl (vjn_X1_pairCost_152 G x4v x5v x6v x7v x8v μ)
set_option maxRecDepth 100000 in
set_option maxHeartbeats 4000000 in
theorem v_X1_pairCost (G : GG) (q0 : Nat) (hq0 : isO q0 1) (a1 : Int32) (a2 : Int32) (a3 : Int32) (μ : Mem) : V G J_X1_pairCost 0 [(0, .ref (G.2.1 q0)), (1, .int a1), (2, .int a2), (3, .int a3)] [] μ (f_X1_pairCost q0 a1 a2 a3 μ) kI := by
  rw [f_X1_pairCost]
  refine v_iload_n (n := 1) dX1_pairCost_0 rfl 1 rfl rfl ?_
  refine v_iconst (n := 2) (v := 1) dX1_pairCost_1 ci_1 rfl ?_
  refine v_icmp_ne (tgt := 16) (n := 5) dX1_pairCost_2 (by decide) rfl ?_ ?_
  · refine v_aload_n (n := 6) dX1_pairCost_5 rfl 0 rfl rfl ?_
    refine v_getI (n := 9) (i := 7) dX1_pairCost_6 hq0 rfl fg_X1_34 rfl ?_
    refine v_aload_n (n := 10) dX1_pairCost_9 rfl 0 rfl rfl ?_
    refine v_iload_n (n := 11) dX1_pairCost_10 rfl 2 rfl rfl ?_
    refine v_cVi (n := 14) (st := [.int (μ q0 7)]) [.int a2] dX1_pairCost_11 (fun t ht => M_X1_leftLength G q0 hq0 a2 μ t ht) cal_X1_leftLength mw51 hq0 rfl rfl (Nat.le_of_ble_eq_true rfl) ⟨Nat.le_of_ble_eq_true rfl, Nat.le_of_ble_eq_true rfl⟩ rfl (fun x21 μ20 => ?_)
    refine v_iadd (n := 15) dX1_pairCost_14 rfl ?_
    exact v_iret dX1_pairCost_15 rfl rfl
  · refine v_iload_n (n := 17) dX1_pairCost_16 rfl 1 rfl rfl ?_
    refine v_iconst (n := 18) (v := 2) dX1_pairCost_17 ci_2 rfl ?_
    refine v_icmp_ne (tgt := 33) (n := 21) dX1_pairCost_18 (by decide) rfl ?_ ?_
    · refine v_aload_n (n := 22) dX1_pairCost_21 rfl 0 rfl rfl ?_
      refine v_getI (n := 25) (i := 7) dX1_pairCost_22 hq0 rfl fg_X1_34 rfl ?_
      refine v_aload_n (n := 26) dX1_pairCost_25 rfl 0 rfl rfl ?_
      refine v_getR (n := 29) (i := 3) (q2 := (q0 + 4)) dX1_pairCost_26 hq0 rfl fg_X1_21 rfl ?_
      refine v_iload_n (n := 30) dX1_pairCost_29 rfl 3 rfl rfl ?_
      refine v_iald (n := 31) dX1_pairCost_30 (ar1_3 hq0) rfl ?_
      refine v_iadd (n := 32) dX1_pairCost_31 rfl ?_
      exact v_iret dX1_pairCost_32 rfl rfl
    · refine v_aload_n (n := 34) dX1_pairCost_33 rfl 0 rfl rfl ?_
      refine v_iload_n (n := 35) dX1_pairCost_34 rfl 2 rfl rfl ?_
      refine v_cVi (n := 38) (st := []) [.int a2] dX1_pairCost_35 (fun t ht => M_X1_leftLength G q0 hq0 a2 μ t ht) cal_X1_leftLength mw51 hq0 rfl rfl (Nat.le_of_ble_eq_true rfl) ⟨Nat.le_of_ble_eq_true rfl, Nat.le_of_ble_eq_true rfl⟩ rfl (fun x2 μ1 => ?_)
      refine v_istore (n := 40) [(4, .int x2), (0, .ref (G.2.1 q0)), (1, .int a1), (2, .int a2), (3, .int a3)] dX1_pairCost_38 (by decide) rfl rfl ?_
      refine v_aload_n (n := 41) dX1_pairCost_40 rfl 1 rfl rfl ?_
      refine v_getR (n := 44) (i := 2) (q2 := (q0 + 3)) dX1_pairCost_41 hq0 rfl fg_X1_18 rfl ?_
      refine v_iload_n (n := 45) dX1_pairCost_44 rfl 3 rfl rfl ?_
      refine v_iald (n := 46) dX1_pairCost_45 (ar1_2 hq0) rfl ?_
      refine v_cSi (n := 49) (st := []) [.int (μ1 (q0 + 3) a2.toNatClampNeg)] dX1_pairCost_46 (fun t ht => M_X1_anchorSet G (μ1 (q0 + 3) a2.toNatClampNeg) μ1 t ht) cal_X1_anchorSet mw52 rfl rfl (Nat.le_of_ble_eq_true rfl) ⟨Nat.le_of_ble_eq_true rfl, Nat.le_of_ble_eq_true rfl⟩ rfl (fun x4 μ3 => ?_)
      refine v_istore (n := 51) [(5, .int x4), (4, .int x2), (0, .ref (G.2.1 q0)), (1, .int a1), (2, .int a2), (3, .int a3)] dX1_pairCost_49 (by decide) rfl rfl ?_
      refine v_aload_n (n := 52) dX1_pairCost_51 rfl 2 rfl rfl ?_
      refine v_getR (n := 55) (i := 3) (q2 := (q0 + 4)) dX1_pairCost_52 hq0 rfl fg_X1_21 rfl ?_
      refine v_iload_n (n := 56) dX1_pairCost_55 rfl 5 rfl rfl ?_
      refine v_iald (n := 57) dX1_pairCost_56 (ar1_3 hq0) rfl ?_
      refine v_lt (fun x5 => ?_)
      refine v_istore (n := 59) [(6, .int x5), (5, .int x4), (4, .int x2), (0, .ref (G.2.1 q0)), (1, .int a1), (2, .int a2), (3, .int a3)] dX1_pairCost_57 (by decide) rfl rfl ?_
      refine v_aload_n (n := 60) dX1_pairCost_59 rfl 3 rfl rfl ?_
      refine v_getR (n := 63) (i := 4) (q2 := (q0 + 5)) dX1_pairCost_60 hq0 rfl fg_X1_24 rfl ?_
      refine v_iload_n (n := 64) dX1_pairCost_63 rfl 6 rfl rfl ?_
      refine v_iald (n := 65) dX1_pairCost_64 (ar1_4 hq0) rfl ?_
      refine v_cSi (n := 68) (st := []) [.int (μ3 (q0 + 5) a3.toNatClampNeg)] dX1_pairCost_65 (fun t ht => M_X1_anchorSet G (μ3 (q0 + 5) a3.toNatClampNeg) μ3 t ht) cal_X1_anchorSet mw52 rfl rfl (Nat.le_of_ble_eq_true rfl) ⟨Nat.le_of_ble_eq_true rfl, Nat.le_of_ble_eq_true rfl⟩ rfl (fun x7 μ6 => ?_)
      refine v_istore (n := 70) [(7, .int x7), (6, .int x5), (5, .int x4), (4, .int x2), (0, .ref (G.2.1 q0)), (1, .int a1), (2, .int a2), (3, .int a3)] dX1_pairCost_68 (by decide) rfl rfl ?_
      refine v_iconst (n := 71) (v := 0) dX1_pairCost_70 ci_0 rfl ?_
      refine v_istore (n := 73) [(8, .int (0 : Int32)), (7, .int x7), (6, .int x5), (5, .int x4), (4, .int x2), (0, .ref (G.2.1 q0)), (1, .int a1), (2, .int a2), (3, .int a3)] dX1_pairCost_71 (by decide) rfl rfl ?_
      refine v_iload_n (n := 74) dX1_pairCost_73 rfl 6 rfl rfl ?_
      refine v_iconst (n := 75) (v := 3) dX1_pairCost_74 ci_3 rfl ?_
      refine v_icmp_ne (tgt := 112) (n := 78) dX1_pairCost_75 (by decide) rfl ?_ ?_
      · refine v_iload (n := 80) dX1_pairCost_78 4 rfl rfl ?_
        refine v_aload_n (n := 81) dX1_pairCost_80 rfl 5 rfl rfl ?_
        refine v_iload_n (n := 82) dX1_pairCost_81 rfl 7 rfl rfl ?_
        refine v_iconst (n := 83) (v := 1) dX1_pairCost_82 ci_1 rfl ?_
        refine v_iadd (n := 84) dX1_pairCost_83 rfl ?_
        refine v_cVi (n := 87) (st := [.int x2]) [.int (a2 + (1 : Int32))] dX1_pairCost_84 (fun t ht => M_X1_leftLength G q0 hq0 (a2 + (1 : Int32)) μ6 t ht) cal_X1_leftLength mw51 hq0 rfl rfl (Nat.le_of_ble_eq_true rfl) ⟨Nat.le_of_ble_eq_true rfl, Nat.le_of_ble_eq_true rfl⟩ rfl (fun x14 μ13 => ?_)
        refine v_iadd (n := 88) dX1_pairCost_87 rfl ?_
        refine v_lt (fun x15 => ?_)
        refine v_istore (n := 90) [(4, .int x15), (8, .int (0 : Int32)), (7, .int x7), (6, .int x5), (5, .int x4), (0, .ref (G.2.1 q0)), (1, .int a1), (2, .int a2), (3, .int a3)] dX1_pairCost_88 (by decide) rfl rfl ?_
        refine v_iload (n := 92) dX1_pairCost_90 4 rfl rfl ?_
        refine v_aload_n (n := 93) dX1_pairCost_92 rfl 5 rfl rfl ?_
        refine v_getR (n := 96) (i := 2) (q2 := (q0 + 3)) dX1_pairCost_93 hq0 rfl fg_X1_18 rfl ?_
        refine v_iload_n (n := 97) dX1_pairCost_96 rfl 7 rfl rfl ?_
        refine v_iconst (n := 98) (v := 1) dX1_pairCost_97 ci_1 rfl ?_
        refine v_iadd (n := 99) dX1_pairCost_98 rfl ?_
        refine v_iald (n := 100) dX1_pairCost_99 (ar1_2 hq0) rfl ?_
        refine v_cSi (n := 103) (st := [.int x4]) [.int (μ13 (q0 + 3) (a2 + (1 : Int32)).toNatClampNeg)] dX1_pairCost_100 (fun t ht => M_X1_anchorSet G (μ13 (q0 + 3) (a2 + (1 : Int32)).toNatClampNeg) μ13 t ht) cal_X1_anchorSet mw52 rfl rfl (Nat.le_of_ble_eq_true rfl) ⟨Nat.le_of_ble_eq_true rfl, Nat.le_of_ble_eq_true rfl⟩ rfl (fun x17 μ16 => ?_)
        refine v_ior (n := 104) dX1_pairCost_103 rfl ?_
        refine v_lt (fun x18 => ?_)
        refine v_istore (n := 106) [(5, .int x18), (4, .int x15), (8, .int (0 : Int32)), (7, .int x7), (6, .int x5), (0, .ref (G.2.1 q0)), (1, .int a1), (2, .int a2), (3, .int a3)] dX1_pairCost_104 (by decide) rfl rfl ?_
        refine v_aload_n (n := 107) dX1_pairCost_106 rfl 5 rfl rfl ?_
        refine v_getI (n := 110) (i := 8) dX1_pairCost_107 hq0 rfl fg_X1_37 rfl ?_
        refine v_lt (fun x19 => ?_)
        refine v_istore (n := 112) [(8, .int x19), (5, .int x18), (4, .int x15), (7, .int x7), (6, .int x5), (0, .ref (G.2.1 q0)), (1, .int a1), (2, .int a2), (3, .int a3)] dX1_pairCost_110 (by decide) rfl rfl ?_
        exact v_sub [5, 6, 8, 2, 1, 4, 3, 0] rfl (vjn_X1_pairCost_112 G q0 hq0 a1 a3 x15 x18 x5 x7 x19 μ16)
      · exact v_sub [5, 6, 8, 4, 3, 2, 1, 0] rfl (vjn_X1_pairCost_112 G q0 hq0 a1 a3 x2 x4 x5 x7 (0 : Int32) μ6)
theorem M_X1_pairCost (G : GG) (q0 : Nat) (hq0 : isO q0 1) (a1 : Int32) (a2 : Int32) (a3 : Int32) (μ : Mem) (t : Int32 × Mem) (ht : f_X1_pairCost q0 a1 a2 a3 μ = some t) : GM G J_X1_pairCost yX1_pairCost [.ref (G.2.1 q0), .int a1, .int a2, .int a3] μ (oI t) :=
  gm_of (J := J_X1_pairCost) (k := kI) rfl (by decide) (Nat.le_of_ble_eq_true rfl) (v_X1_pairCost G q0 hq0 a1 a2 a3 μ) ht rfl
set_option maxRecDepth 100000 in
set_option maxHeartbeats 4000000 in
theorem vjn_X0_take_69 (G : GG) (ih : Int32 → Mem → Option (Mem)) (r0v : Nat) (hr0v : isO r0v 0) (r1v : Nat) (hr1v : isO r1v 1) (x2v : Int32) (x3v : Int32) (x4v : Int32) (s0v : Int32) (kk : (Mem) → Option Oc) (hx : ∀ (μ : Mem), V G J_X0_take 96 [(0, .ref (G.2.1 r0v)), (1, .ref (G.2.1 r1v)), (2, .int x2v), (3, .int x3v)] [] μ (kk μ) some) (hih : ∀ (w4v : Int32) (μ : Mem), V G J_X0_take 39 [(0, .ref (G.2.1 r0v)), (1, .ref (G.2.1 r1v)), (2, .int x2v), (3, .int x3v), (4, .int w4v)] [] μ (ih w4v μ) kk) (μ : Mem) : V G J_X0_take 69 [(0, .ref (G.2.1 r0v)), (1, .ref (G.2.1 r1v)), (2, .int x2v), (3, .int x3v), (4, .int x4v)] [.int s0v] μ (jn_X0_take_69 ih r0v r1v x2v x3v x4v s0v μ) kk := by
  rw [jn_X0_take_69]
  refine v_istore (n := 71) [(5, .int s0v), (0, .ref (G.2.1 r0v)), (1, .ref (G.2.1 r1v)), (2, .int x2v), (3, .int x3v), (4, .int x4v)] dX0_take_69 (by decide) rfl rfl ?_
  refine v_aload_n (n := 72) dX0_take_71 rfl 1 rfl rfl ?_
  refine v_getR (n := 75) (i := 0) (q2 := (r0v + 1)) dX0_take_72 hr0v rfl fg_X0_9 rfl ?_
  refine v_iload (n := 77) dX0_take_75 5 rfl rfl ?_
  refine v_bipush (n := 79) (v := 64) dX0_take_77 cb_64 rfl ?_
  refine v_imul (n := 80) dX0_take_79 rfl ?_
  refine v_iload_n (n := 81) dX0_take_80 rfl 3 rfl rfl ?_
  refine v_bipush (n := 83) (v := 8) dX0_take_81 cb_8 rfl ?_
  refine v_imul (n := 84) dX0_take_83 rfl ?_
  refine v_iadd (n := 85) dX0_take_84 rfl ?_
  refine v_iload_n (n := 86) dX0_take_85 rfl 4 rfl rfl ?_
  refine v_iadd (n := 87) dX0_take_86 rfl ?_
  refine v_iload (n := 89) dX0_take_87 0 rfl rfl ?_
  refine v_iast (n := 90) dX0_take_89 (ar0_0 hr0v) rfl ?_
  refine v_lm (fun μ5 => ?_)
  refine v_iinc (n := 93) (w := 1) (fun x6 => [(4, .int x6), (5, .int s0v), (0, .ref (G.2.1 r0v)), (1, .ref (G.2.1 r1v)), (2, .int x2v), (3, .int x3v)]) dX0_take_90 5 rfl ci_1 (by decide) (fun _ => rfl) rfl (fun x6 => ?_)
  refine v_goto (tgt := 39) dX0_take_93 (by decide) ?_
  exact v_sub [2, 3, 4, 5, 0] rfl (hih x6 μ5)
set_option maxRecDepth 100000 in
set_option maxHeartbeats 4000000 in
theorem vlp_X0_take_39 (G : GG) (r0v : Nat) (hr0v : isO r0v 0) (r1v : Nat) (hr1v : isO r1v 1) (x2v : Int32) (x3v : Int32) (kk : (Mem) → Option Oc) (hx : ∀ (μ : Mem), V G J_X0_take 96 [(0, .ref (G.2.1 r0v)), (1, .ref (G.2.1 r1v)), (2, .int x2v), (3, .int x3v)] [] μ (kk μ) some) : ∀ (n : Nat) (x4v : Int32) (μ : Mem), V G J_X0_take 39 [(0, .ref (G.2.1 r0v)), (1, .ref (G.2.1 r1v)), (2, .int x2v), (3, .int x3v), (4, .int x4v)] [] μ (lp_X0_take_39 r0v r1v x2v x3v n x4v μ) kk := by
  intro n
  induction n with
  | zero => intro _ _; exact v_none
  | succ n ih =>
    intro x4v μ
    rw [lp_X0_take_39]
    refine v_iload (n := 41) dX0_take_39 4 rfl rfl ?_
    refine v_iconst (n := 42) (v := 5) dX0_take_41 ci_5 rfl ?_
    refine v_icmp_ge (tgt := 96) (n := 45) dX0_take_42 (by decide) rfl ?_ ?_
    · exact v_leaf (v_sub [0, 1, 2, 3] rfl (hx  μ))
    · refine v_aload_n (n := 46) dX0_take_45 rfl 1 rfl rfl ?_
      refine v_iload (n := 48) dX0_take_46 4 rfl rfl ?_
      refine v_iload_n (n := 49) dX0_take_48 rfl 2 rfl rfl ?_
      refine v_iload_n (n := 50) dX0_take_49 rfl 3 rfl rfl ?_
      refine v_cVi (n := 53) (st := []) [.int x4v, .int x2v, .int x3v] dX0_take_50 (fun t ht => M_X1_hasPair G r1v hr1v x4v x2v x3v μ t ht) cal_X1_hasPair mw60 hr1v rfl rfl (Nat.le_of_ble_eq_true rfl) ⟨Nat.le_of_ble_eq_true rfl, Nat.le_of_ble_eq_true rfl⟩ rfl (fun x4 μ3 => ?_)
      refine v_if_eq (tgt := 67) (n := 56) dX0_take_53 (by decide) rfl ?_ ?_
      · refine v_ldc (n := 69) (v := 1000000) dX0_take_67 mw61 rfl ?_
        exact vjn_X0_take_69 G (lp_X0_take_39 r0v r1v x2v x3v n) r0v hr0v r1v hr1v x2v x3v x4v (1000000 : Int32) kk hx ih μ3
      · refine v_aload_n (n := 57) dX0_take_56 rfl 1 rfl rfl ?_
        refine v_iload (n := 59) dX0_take_57 4 rfl rfl ?_
        refine v_iload_n (n := 60) dX0_take_59 rfl 2 rfl rfl ?_
        refine v_iload_n (n := 61) dX0_take_60 rfl 3 rfl rfl ?_
        refine v_cVi (n := 64) (st := []) [.int x4v, .int x2v, .int x3v] dX0_take_61 (fun t ht => M_X1_pairCost G r1v hr1v x4v x2v x3v μ3 t ht) cal_X1_pairCost mw63 hr1v rfl rfl (Nat.le_of_ble_eq_true rfl) ⟨Nat.le_of_ble_eq_true rfl, Nat.le_of_ble_eq_true rfl⟩ rfl (fun x8 μ7 => ?_)
        refine v_goto (tgt := 69) dX0_take_64 (by decide) ?_
        exact vjn_X0_take_69 G (lp_X0_take_39 r0v r1v x2v x3v n) r0v hr0v r1v hr1v x2v x3v x4v x8 kk hx ih μ7
set_option maxRecDepth 100000 in
set_option maxHeartbeats 4000000 in
theorem vlp_X0_take_28 (G : GG) (r0v : Nat) (hr0v : isO r0v 0) (r1v : Nat) (hr1v : isO r1v 1) (x2v : Int32) (kk : (Mem) → Option Oc) (hx : ∀ (μ : Mem), V G J_X0_take 102 [(0, .ref (G.2.1 r0v)), (1, .ref (G.2.1 r1v)), (2, .int x2v)] [] μ (kk μ) some) : ∀ (n : Nat) (x3v : Int32) (μ : Mem), V G J_X0_take 28 [(0, .ref (G.2.1 r0v)), (1, .ref (G.2.1 r1v)), (2, .int x2v), (3, .int x3v)] [] μ (lp_X0_take_28 r0v r1v x2v n x3v μ) kk := by
  intro n
  induction n with
  | zero => intro _ _; exact v_none
  | succ n ih =>
    intro x3v μ
    rw [lp_X0_take_28]
    refine v_iload_n (n := 29) dX0_take_28 rfl 3 rfl rfl ?_
    refine v_aload_n (n := 30) dX0_take_29 rfl 0 rfl rfl ?_
    refine v_getI (n := 33) (i := 9) dX0_take_30 hr0v rfl fg_X0_63 rfl ?_
    refine v_icmp_gt (tgt := 102) (n := 36) dX0_take_33 (by decide) rfl ?_ ?_
    · exact v_leaf (v_sub [0, 1, 2] rfl (hx  μ))
    · refine v_iconst (n := 37) (v := 0) dX0_take_36 ci_0 rfl ?_
      refine v_istore (n := 39) [(4, .int (0 : Int32)), (0, .ref (G.2.1 r0v)), (1, .ref (G.2.1 r1v)), (2, .int x2v), (3, .int x3v)] dX0_take_37 (by decide) rfl rfl ?_
      refine v_sub [1, 2, 3, 4, 0] rfl ?_
      refine v_x1 (px := 96) (lx := (fun μ9 => [(0, .ref (G.2.1 r0v)), (1, .ref (G.2.1 r1v)), (2, .int x2v), (3, .int x3v)])) (mx := (fun μ9 => μ9)) (fun kk hx => vlp_X0_take_39 G r0v hr0v r1v hr1v x2v x3v kk hx FU (0 : Int32) μ) (fun μ9 => ?_)
      refine v_iinc (n := 99) (w := 1) (fun x10 => [(3, .int x10), (0, .ref (G.2.1 r0v)), (1, .ref (G.2.1 r1v)), (2, .int x2v)]) dX0_take_96 3 rfl ci_1 (by decide) (fun _ => rfl) rfl (fun x10 => ?_)
      refine v_goto (tgt := 28) dX0_take_99 (by decide) ?_
      exact v_sub [1, 2, 3, 0] rfl (ih x10 μ9)
set_option maxRecDepth 100000 in
set_option maxHeartbeats 4000000 in
theorem vlp_X0_take_18 (G : GG) (r0v : Nat) (hr0v : isO r0v 0) (r1v : Nat) (hr1v : isO r1v 1) (kk : (Mem) → Option Oc) (hx : ∀ (μ : Mem), V G J_X0_take 108 [] [] μ (kk μ) some) : ∀ (n : Nat) (x2v : Int32) (μ : Mem), V G J_X0_take 18 [(0, .ref (G.2.1 r0v)), (1, .ref (G.2.1 r1v)), (2, .int x2v)] [] μ (lp_X0_take_18 r0v r1v n x2v μ) kk := by
  intro n
  induction n with
  | zero => intro _ _; exact v_none
  | succ n ih =>
    intro x2v μ
    rw [lp_X0_take_18]
    refine v_iload_n (n := 19) dX0_take_18 rfl 2 rfl rfl ?_
    refine v_aload_n (n := 20) dX0_take_19 rfl 0 rfl rfl ?_
    refine v_getI (n := 23) (i := 8) dX0_take_20 hr0v rfl fg_X0_59 rfl ?_
    refine v_icmp_gt (tgt := 108) (n := 26) dX0_take_23 (by decide) rfl ?_ ?_
    · exact v_leaf (v_sub [] rfl (hx  μ))
    · refine v_iconst (n := 27) (v := 0) dX0_take_26 ci_0 rfl ?_
      refine v_istore_n (n := 28) [(3, .int (0 : Int32)), (0, .ref (G.2.1 r0v)), (1, .ref (G.2.1 r1v)), (2, .int x2v)] dX0_take_27 rfl (by decide) rfl rfl ?_
      refine v_sub [1, 2, 3, 0] rfl ?_
      refine v_x1 (px := 102) (lx := (fun μ11 => [(0, .ref (G.2.1 r0v)), (1, .ref (G.2.1 r1v)), (2, .int x2v)])) (mx := (fun μ11 => μ11)) (fun kk hx => vlp_X0_take_28 G r0v hr0v r1v hr1v x2v kk hx FU (0 : Int32) μ) (fun μ11 => ?_)
      refine v_iinc (n := 105) (w := 1) (fun x12 => [(2, .int x12), (0, .ref (G.2.1 r0v)), (1, .ref (G.2.1 r1v))]) dX0_take_102 2 rfl ci_1 (by decide) (fun _ => rfl) rfl (fun x12 => ?_)
      refine v_goto (tgt := 18) dX0_take_105 (by decide) ?_
      exact v_sub [1, 2, 0] rfl (ih x12 μ11)
set_option maxRecDepth 100000 in
set_option maxHeartbeats 4000000 in
theorem v_X0_take (G : GG) (q0 : Nat) (hq0 : isO q0 0) (q1 : Nat) (hq1 : isO q1 1) (μ : Mem) : V G J_X0_take 0 [(0, .ref (G.2.1 q0)), (1, .ref (G.2.1 q1))] [] μ (f_X0_take q0 q1 μ) kV := by
  rw [f_X0_take]
  refine v_aload_n (n := 1) dX0_take_0 rfl 0 rfl rfl ?_
  refine v_aload_n (n := 2) dX0_take_1 rfl 1 rfl rfl ?_
  refine v_getI (n := 5) (i := 5) dX0_take_2 hq1 rfl fg_X0_56 rfl ?_
  refine v_put (n := 8) (i := 8) dX0_take_5 hq0 rfl fp_X0_59 rfl rfl rfl ?_
  refine v_lm (fun μ1 => ?_)
  refine v_aload_n (n := 9) dX0_take_8 rfl 0 rfl rfl ?_
  refine v_aload_n (n := 10) dX0_take_9 rfl 1 rfl rfl ?_
  refine v_getI (n := 13) (i := 6) dX0_take_10 hq1 rfl fg_X0_60 rfl ?_
  refine v_put (n := 16) (i := 9) dX0_take_13 hq0 rfl fp_X0_63 rfl rfl rfl ?_
  refine v_lm (fun μ2 => ?_)
  refine v_iconst (n := 17) (v := 0) dX0_take_16 ci_0 rfl ?_
  refine v_istore_n (n := 18) [(2, .int (0 : Int32)), (0, .ref (G.2.1 q0)), (1, .ref (G.2.1 q1))] dX0_take_17 rfl (by decide) rfl rfl ?_
  refine v_sub [1, 2, 0] rfl ?_
  refine v_x1 (px := 108) (lx := (fun μ13 => [])) (mx := (fun μ13 => μ13)) (fun kk hx => vlp_X0_take_18 G q0 hq0 q1 hq1 kk hx FU (0 : Int32) μ2) (fun μ13 => ?_)
  exact v_vret dX0_take_108 rfl rfl
theorem M_X0_take (G : GG) (q0 : Nat) (hq0 : isO q0 0) (q1 : Nat) (hq1 : isO q1 1) (μ : Mem) (t : Mem) (ht : f_X0_take q0 q1 μ = some t) : GM G J_X0_take yX0_take [.ref (G.2.1 q0), .ref (G.2.1 q1)] μ (oV t) :=
  gm_of (J := J_X0_take) (k := kV) rfl (by decide) (Nat.le_of_ble_eq_true rfl) (v_X0_take G q0 hq0 q1 hq1 μ) ht rfl
set_option maxRecDepth 100000 in
set_option maxHeartbeats 4000000 in
theorem v_X0_end (G : GG) (q0 : Nat) (hq0 : isO q0 0) (μ : Mem) : V G J_X0_end 0 [(0, .ref (G.2.1 q0))] [] μ (f_X0_end q0 μ) kI := by
  rw [f_X0_end]
  refine v_aload_n (n := 1) dX0_end_0 rfl 0 rfl rfl ?_
  refine v_getI (n := 4) (i := 8) dX0_end_1 hq0 rfl fg_X0_59 rfl ?_
  refine v_bipush (n := 6) (v := 8) dX0_end_4 cb_8 rfl ?_
  refine v_imul (n := 7) dX0_end_6 rfl ?_
  refine v_aload_n (n := 8) dX0_end_7 rfl 0 rfl rfl ?_
  refine v_getI (n := 11) (i := 9) dX0_end_8 hq0 rfl fg_X0_63 rfl ?_
  refine v_iadd (n := 12) dX0_end_11 rfl ?_
  exact v_iret dX0_end_12 rfl rfl
theorem M_X0_end (G : GG) (q0 : Nat) (hq0 : isO q0 0) (μ : Mem) (t : Int32 × Mem) (ht : f_X0_end q0 μ = some t) : GM G J_X0_end yX0_end [.ref (G.2.1 q0)] μ (oI t) :=
  gm_of (J := J_X0_end) (k := kI) rfl (by decide) (Nat.le_of_ble_eq_true rfl) (v_X0_end G q0 hq0 μ) ht rfl
set_option maxRecDepth 100000 in
set_option maxHeartbeats 4000000 in
theorem vjn_X0_fillLeast_59 (G : GG) (ih : Int32 → Int32 → Mem → Option (Int32 × Mem)) (r0v : Nat) (hr0v : isO r0v 0) (x1v : Int32) (x2v : Int32) (x3v : Int32) (x4v : Int32) (kk : (Int32 × Mem) → Option Oc) (hx : ∀ (w2v : Int32) (μ : Mem), V G J_X0_fillLeast 81 [(0, .ref (G.2.1 r0v)), (1, .int x1v), (2, .int w2v)] [] μ (kk (w2v, μ)) some) (hih : ∀ (w2v : Int32) (w3v : Int32) (μ : Mem), V G J_X0_fillLeast 17 [(0, .ref (G.2.1 r0v)), (1, .int x1v), (2, .int w2v), (3, .int w3v)] [] μ (ih w2v w3v μ) kk) (μ : Mem) : V G J_X0_fillLeast 59 [(0, .ref (G.2.1 r0v)), (1, .int x1v), (2, .int x2v), (3, .int x3v), (4, .int x4v)] [] μ (jn_X0_fillLeast_59 ih r0v x1v x2v x3v x4v μ) kk := by
  rw [jn_X0_fillLeast_59]
  refine v_iload (n := 61) dX0_fillLeast_59 4 rfl rfl ?_
  refine v_iload_n (n := 62) dX0_fillLeast_61 rfl 2 rfl rfl ?_
  refine v_icmp_ge (tgt := 75) (n := 65) dX0_fillLeast_62 (by decide) rfl ?_ ?_
  · refine v_iinc (n := 78) (w := 1) (fun x4 => [(3, .int x4), (0, .ref (G.2.1 r0v)), (1, .int x1v), (2, .int x2v), (4, .int x4v)]) dX0_fillLeast_75 3 rfl ci_1 (by decide) (fun _ => rfl) rfl (fun x4 => ?_)
    refine v_goto (tgt := 17) dX0_fillLeast_78 (by decide) ?_
    exact v_sub [1, 2, 3, 0] rfl (hih x2v x4 μ)
  · refine v_iload (n := 67) dX0_fillLeast_65 4 rfl rfl ?_
    refine v_istore_n (n := 68) [(2, .int x4v), (0, .ref (G.2.1 r0v)), (1, .int x1v), (3, .int x3v), (4, .int x4v)] dX0_fillLeast_67 rfl (by decide) rfl rfl ?_
    refine v_aload_n (n := 69) dX0_fillLeast_68 rfl 1 rfl rfl ?_
    refine v_getR (n := 72) (i := 4) (q2 := (r0v + 5)) dX0_fillLeast_69 hr0v rfl fg_X0_24 rfl ?_
    refine v_iload_n (n := 73) dX0_fillLeast_72 rfl 2 rfl rfl ?_
    refine v_iload_n (n := 74) dX0_fillLeast_73 rfl 3 rfl rfl ?_
    refine v_iast (n := 75) dX0_fillLeast_74 (ar0_4 hr0v) rfl ?_
    refine v_lm (fun μ5 => ?_)
    refine v_iinc (n := 78) (w := 1) (fun x6 => [(3, .int x6), (2, .int x4v), (0, .ref (G.2.1 r0v)), (1, .int x1v), (4, .int x4v)]) dX0_fillLeast_75 3 rfl ci_1 (by decide) (fun _ => rfl) rfl (fun x6 => ?_)
    refine v_goto (tgt := 17) dX0_fillLeast_78 (by decide) ?_
    exact v_sub [2, 3, 1, 0] rfl (hih x4v x6 μ5)
set_option maxRecDepth 100000 in
set_option maxHeartbeats 4000000 in
theorem vlp_X0_fillLeast_17 (G : GG) (r0v : Nat) (hr0v : isO r0v 0) (x1v : Int32) (kk : (Int32 × Mem) → Option Oc) (hx : ∀ (x2v : Int32) (μ : Mem), V G J_X0_fillLeast 81 [(0, .ref (G.2.1 r0v)), (1, .int x1v), (2, .int x2v)] [] μ (kk (x2v, μ)) some) : ∀ (n : Nat) (x2v : Int32) (x3v : Int32) (μ : Mem), V G J_X0_fillLeast 17 [(0, .ref (G.2.1 r0v)), (1, .int x1v), (2, .int x2v), (3, .int x3v)] [] μ (lp_X0_fillLeast_17 r0v x1v n x2v x3v μ) kk := by
  intro n
  induction n with
  | zero => intro _ _ _; exact v_none
  | succ n ih =>
    intro x2v x3v μ
    rw [lp_X0_fillLeast_17]
    refine v_iload_n (n := 18) dX0_fillLeast_17 rfl 3 rfl rfl ?_
    refine v_iconst (n := 19) (v := 5) dX0_fillLeast_18 ci_5 rfl ?_
    refine v_icmp_ge (tgt := 81) (n := 22) dX0_fillLeast_19 (by decide) rfl ?_ ?_
    · exact v_leaf (v_sub [0, 1, 2] rfl (hx x2v μ))
    · refine v_aload_n (n := 23) dX0_fillLeast_22 rfl 0 rfl rfl ?_
      refine v_getR (n := 26) (i := 0) (q2 := (r0v + 1)) dX0_fillLeast_23 hr0v rfl fg_X0_9 rfl ?_
      refine v_iload_n (n := 27) dX0_fillLeast_26 rfl 3 rfl rfl ?_
      refine v_bipush (n := 29) (v := 64) dX0_fillLeast_27 cb_64 rfl ?_
      refine v_imul (n := 30) dX0_fillLeast_29 rfl ?_
      refine v_iload_n (n := 31) dX0_fillLeast_30 rfl 1 rfl rfl ?_
      refine v_iadd (n := 32) dX0_fillLeast_31 rfl ?_
      refine v_iald (n := 33) dX0_fillLeast_32 (ar0_0 hr0v) rfl ?_
      refine v_lt (fun x3 => ?_)
      refine v_istore (n := 35) [(4, .int x3), (0, .ref (G.2.1 r0v)), (1, .int x1v), (2, .int x2v), (3, .int x3v)] dX0_fillLeast_33 (by decide) rfl rfl ?_
      refine v_iload (n := 37) dX0_fillLeast_35 0 rfl rfl ?_
      refine v_ldc (n := 39) (v := 1000000) dX0_fillLeast_37 mw61 rfl ?_
      refine v_icmp_ge (tgt := 59) (n := 42) dX0_fillLeast_39 (by decide) rfl ?_ ?_
      · exact v_sub [1, 2, 3, 4, 0] rfl (vjn_X0_fillLeast_59 G (lp_X0_fillLeast_17 r0v x1v n) r0v hr0v x1v x2v x3v x3 kk hx ih μ)
      · refine v_iload (n := 44) dX0_fillLeast_42 0 rfl rfl ?_
        refine v_aload_n (n := 45) dX0_fillLeast_44 rfl 1 rfl rfl ?_
        refine v_getR (n := 48) (i := 1) (q2 := (r0v + 2)) dX0_fillLeast_45 hr0v rfl fg_X0_15 rfl ?_
        refine v_iload_n (n := 49) dX0_fillLeast_48 rfl 2 rfl rfl ?_
        refine v_gets (n := 52) 2 dX0_fillLeast_49 (by decide) (by decide) rfl ?_
        refine v_iload_n (n := 53) dX0_fillLeast_52 rfl 4 rfl rfl ?_
        refine v_sald (n := 54) dX0_fillLeast_53 (by decide) rfl ?_
        refine v_iadd (n := 55) dX0_fillLeast_54 rfl ?_
        refine v_iald (n := 56) dX0_fillLeast_55 (ar0_1 hr0v) rfl ?_
        refine v_iadd (n := 57) dX0_fillLeast_56 rfl ?_
        refine v_lt (fun x7 => ?_)
        refine v_istore (n := 59) [(4, .int x7), (0, .ref (G.2.1 r0v)), (1, .int x1v), (2, .int x2v), (3, .int x3v)] dX0_fillLeast_57 (by decide) rfl rfl ?_
        exact v_sub [1, 2, 3, 4, 0] rfl (vjn_X0_fillLeast_59 G (lp_X0_fillLeast_17 r0v x1v n) r0v hr0v x1v x2v x3v x7 kk hx ih μ)
set_option maxRecDepth 100000 in
set_option maxHeartbeats 4000000 in
theorem vjn_X0_fillLeast_14 (G : GG) (r0v : Nat) (hr0v : isO r0v 0) (x1v : Int32) (s0v : Int32) (μ : Mem) : V G J_X0_fillLeast 14 [(0, .ref (G.2.1 r0v)), (1, .int x1v)] [.int s0v] μ (jn_X0_fillLeast_14 r0v x1v s0v μ) kV := by
  rw [jn_X0_fillLeast_14]
  refine v_istore_n (n := 15) [(2, .int s0v), (0, .ref (G.2.1 r0v)), (1, .int x1v)] dX0_fillLeast_14 rfl (by decide) rfl rfl ?_
  refine v_iconst (n := 16) (v := 0) dX0_fillLeast_15 ci_0 rfl ?_
  refine v_istore_n (n := 17) [(3, .int (0 : Int32)), (2, .int s0v), (0, .ref (G.2.1 r0v)), (1, .int x1v)] dX0_fillLeast_16 rfl (by decide) rfl rfl ?_
  refine v_sub [2, 3, 1, 0] rfl ?_
  refine v_x2 (px := 81) (lx := (fun x8 μ9 => [(0, .ref (G.2.1 r0v)), (1, .int x1v), (2, .int x8)])) (mx := (fun x8 μ9 => μ9)) (fun kk hx => vlp_X0_fillLeast_17 G r0v hr0v x1v kk hx FU s0v (0 : Int32) μ) (fun x8 μ9 => ?_)
  refine v_aload_n (n := 82) dX0_fillLeast_81 rfl 0 rfl rfl ?_
  refine v_getR (n := 85) (i := 1) (q2 := (r0v + 2)) dX0_fillLeast_82 hr0v rfl fg_X0_15 rfl ?_
  refine v_iload_n (n := 86) dX0_fillLeast_85 rfl 1 rfl rfl ?_
  refine v_iload_n (n := 87) dX0_fillLeast_86 rfl 2 rfl rfl ?_
  refine v_iast (n := 88) dX0_fillLeast_87 (ar0_1 hr0v) rfl ?_
  refine v_lm (fun μ10 => ?_)
  exact v_vret dX0_fillLeast_88 rfl rfl
set_option maxRecDepth 100000 in
set_option maxHeartbeats 4000000 in
theorem v_X0_fillLeast (G : GG) (q0 : Nat) (hq0 : isO q0 0) (a1 : Int32) (μ : Mem) : V G J_X0_fillLeast 0 [(0, .ref (G.2.1 q0)), (1, .int a1)] [] μ (f_X0_fillLeast q0 a1 μ) kV := by
  rw [f_X0_fillLeast]
  refine v_iload_n (n := 1) dX0_fillLeast_0 rfl 1 rfl rfl ?_
  refine v_aload_n (n := 2) dX0_fillLeast_1 rfl 0 rfl rfl ?_
  refine v_cVi (n := 5) (st := [.int a1]) [] dX0_fillLeast_2 (fun t ht => M_X0_end G q0 hq0 μ t ht) cal_X0_end mw64 hq0 rfl rfl (Nat.le_of_ble_eq_true rfl) ⟨Nat.le_of_ble_eq_true rfl, Nat.le_of_ble_eq_true rfl⟩ rfl (fun x2 μ1 => ?_)
  refine v_icmp_ne (tgt := 12) (n := 8) dX0_fillLeast_5 (by decide) rfl ?_ ?_
  · refine v_iconst (n := 9) (v := 0) dX0_fillLeast_8 ci_0 rfl ?_
    refine v_goto (tgt := 14) dX0_fillLeast_9 (by decide) ?_
    exact vjn_X0_fillLeast_14 G q0 hq0 a1 (0 : Int32) μ1
  · refine v_ldc (n := 14) (v := 1000000) dX0_fillLeast_12 mw61 rfl ?_
    exact vjn_X0_fillLeast_14 G q0 hq0 a1 (1000000 : Int32) μ1
theorem M_X0_fillLeast (G : GG) (q0 : Nat) (hq0 : isO q0 0) (a1 : Int32) (μ : Mem) (t : Mem) (ht : f_X0_fillLeast q0 a1 μ = some t) : GM G J_X0_fillLeast yX0_fillLeast [.ref (G.2.1 q0), .int a1] μ (oV t) :=
  gm_of (J := J_X0_fillLeast) (k := kV) rfl (by decide) (Nat.le_of_ble_eq_true rfl) (v_X0_fillLeast G q0 hq0 a1 μ) ht rfl
set_option maxRecDepth 100000 in
set_option maxHeartbeats 4000000 in
theorem v_X0_orNone (G : GG) (a0 : Int32) (μ : Mem) : V G J_X0_orNone 0 [(0, .int a0)] [] μ (f_X0_orNone a0 μ) kI := by
  rw [f_X0_orNone]
  refine v_iload_n (n := 1) dX0_orNone_0 rfl 0 rfl rfl ?_
  refine v_ldc (n := 3) (v := 1000000) dX0_orNone_1 mw61 rfl ?_
  refine v_icmp_ge (tgt := 10) (n := 6) dX0_orNone_3 (by decide) rfl ?_ ?_
  · refine v_bipush (n := 12) (v := -9) dX0_orNone_10 cb_m9 rfl ?_
    exact v_iret dX0_orNone_12 rfl rfl
  · refine v_iload_n (n := 7) dX0_orNone_6 rfl 0 rfl rfl ?_
    refine v_goto (tgt := 12) dX0_orNone_7 (by decide) ?_
    exact v_iret dX0_orNone_12 rfl rfl
theorem M_X0_orNone (G : GG) (a0 : Int32) (μ : Mem) (t : Int32 × Mem) (ht : f_X0_orNone a0 μ = some t) : GM G J_X0_orNone yX0_orNone [.int a0] μ (oI t) :=
  gm_of (J := J_X0_orNone) (k := kI) rfl (by decide) (Nat.le_of_ble_eq_true rfl) (v_X0_orNone G a0 μ) ht rfl
set_option maxRecDepth 100000 in
set_option maxHeartbeats 4000000 in
theorem vlp_X0_leastBy_14 (G : GG) (r0v : Nat) (hr0v : isO r0v 0) (x1v : Int32) (x2v : Int32) (kk : (Mem) → Option Oc) (hx : ∀ (μ : Mem), V G J_X0_leastBy 57 [(0, .ref (G.2.1 r0v)), (1, .int x1v), (2, .int x2v)] [] μ (kk μ) some) : ∀ (n : Nat) (x3v : Int32) (μ : Mem), V G J_X0_leastBy 14 [(0, .ref (G.2.1 r0v)), (1, .int x1v), (2, .int x2v), (3, .int x3v)] [] μ (lp_X0_leastBy_14 r0v x1v x2v n x3v μ) kk := by
  intro n
  induction n with
  | zero => intro _ _; exact v_none
  | succ n ih =>
    intro x3v μ
    rw [lp_X0_leastBy_14]
    refine v_iload_n (n := 15) dX0_leastBy_14 rfl 3 rfl rfl ?_
    refine v_if_lt (tgt := 57) (n := 18) dX0_leastBy_15 (by decide) rfl ?_ ?_
    · exact v_leaf (v_sub [0, 1, 2] rfl (hx  μ))
    · refine v_iload_n (n := 19) dX0_leastBy_18 rfl 2 rfl rfl ?_
      refine v_bipush (n := 21) (v := 8) dX0_leastBy_19 cb_8 rfl ?_
      refine v_imul (n := 22) dX0_leastBy_21 rfl ?_
      refine v_iload_n (n := 23) dX0_leastBy_22 rfl 3 rfl rfl ?_
      refine v_iadd (n := 24) dX0_leastBy_23 rfl ?_
      refine v_lt (fun x3 => ?_)
      refine v_istore (n := 26) [(4, .int x3), (0, .ref (G.2.1 r0v)), (1, .int x1v), (2, .int x2v), (3, .int x3v)] dX0_leastBy_24 (by decide) rfl rfl ?_
      refine v_aload_n (n := 27) dX0_leastBy_26 rfl 1 rfl rfl ?_
      refine v_getR (n := 30) (i := 1) (q2 := (r0v + 2)) dX0_leastBy_27 hr0v rfl fg_X0_15 rfl ?_
      refine v_iload (n := 32) dX0_leastBy_30 0 rfl rfl ?_
      refine v_ldc (n := 34) (v := 1000000) dX0_leastBy_32 mw61 rfl ?_
      refine v_iast (n := 35) dX0_leastBy_34 (ar0_1 hr0v) rfl ?_
      refine v_lm (fun μ4 => ?_)
      refine v_iload_n (n := 36) dX0_leastBy_35 rfl 3 rfl rfl ?_
      refine v_iload_n (n := 37) dX0_leastBy_36 rfl 4 rfl rfl ?_
      refine v_isub (n := 38) dX0_leastBy_37 rfl ?_
      refine v_mabs (n := 41) dX0_leastBy_38 mw67 mw54 mw55 cwm_abs (Nat.le_of_ble_eq_true rfl) (Nat.le_of_ble_eq_true rfl) rfl ?_
      refine v_iload_n (n := 42) dX0_leastBy_41 rfl 2 rfl rfl ?_
      refine v_icmp_gt (tgt := 51) (n := 45) dX0_leastBy_42 (by decide) rfl ?_ ?_
      · refine v_iinc (n := 54) (w := -1) (fun x5 => [(3, .int x5), (4, .int x3), (0, .ref (G.2.1 r0v)), (1, .int x1v), (2, .int x2v)]) dX0_leastBy_51 4 rfl ci_m1 (by decide) (fun _ => rfl) rfl (fun x5 => ?_)
        refine v_goto (tgt := 14) dX0_leastBy_54 (by decide) ?_
        exact v_sub [2, 3, 4, 0] rfl (ih x5 μ4)
      · refine v_aload_n (n := 46) dX0_leastBy_45 rfl 1 rfl rfl ?_
        refine v_iload (n := 48) dX0_leastBy_46 0 rfl rfl ?_
        refine v_cVv (n := 51) (st := []) [.int x3] dX0_leastBy_48 (fun t ht => M_X0_fillLeast G r0v hr0v x3 μ4 t ht) cal_X0_fillLeast mw68 hr0v rfl rfl (Nat.le_of_ble_eq_true rfl) ⟨Nat.le_of_ble_eq_true rfl, Nat.le_of_ble_eq_true rfl⟩ rfl (fun μ6 => ?_)
        refine v_iinc (n := 54) (w := -1) (fun x7 => [(3, .int x7), (4, .int x3), (0, .ref (G.2.1 r0v)), (1, .int x1v), (2, .int x2v)]) dX0_leastBy_51 4 rfl ci_m1 (by decide) (fun _ => rfl) rfl (fun x7 => ?_)
        refine v_goto (tgt := 14) dX0_leastBy_54 (by decide) ?_
        exact v_sub [2, 3, 4, 0] rfl (ih x7 μ6)
set_option maxRecDepth 100000 in
set_option maxHeartbeats 4000000 in
theorem vlp_X0_leastBy_5 (G : GG) (r0v : Nat) (hr0v : isO r0v 0) (x1v : Int32) (kk : (Mem) → Option Oc) (hx : ∀ (μ : Mem), V G J_X0_leastBy 63 [(0, .ref (G.2.1 r0v))] [] μ (kk μ) some) : ∀ (n : Nat) (x2v : Int32) (μ : Mem), V G J_X0_leastBy 5 [(0, .ref (G.2.1 r0v)), (1, .int x1v), (2, .int x2v)] [] μ (lp_X0_leastBy_5 r0v x1v n x2v μ) kk := by
  intro n
  induction n with
  | zero => intro _ _; exact v_none
  | succ n ih =>
    intro x2v μ
    rw [lp_X0_leastBy_5]
    refine v_iload_n (n := 6) dX0_leastBy_5 rfl 2 rfl rfl ?_
    refine v_if_lt (tgt := 63) (n := 9) dX0_leastBy_6 (by decide) rfl ?_ ?_
    · exact v_leaf (v_sub [0] rfl (hx  μ))
    · refine v_aload_n (n := 10) dX0_leastBy_9 rfl 0 rfl rfl ?_
      refine v_getI (n := 13) (i := 9) dX0_leastBy_10 hr0v rfl fg_X0_63 rfl ?_
      refine v_lt (fun x2 => ?_)
      refine v_istore_n (n := 14) [(3, .int x2), (0, .ref (G.2.1 r0v)), (1, .int x1v), (2, .int x2v)] dX0_leastBy_13 rfl (by decide) rfl rfl ?_
      refine v_sub [1, 2, 3, 0] rfl ?_
      refine v_x1 (px := 57) (lx := (fun μ8 => [(0, .ref (G.2.1 r0v)), (1, .int x1v), (2, .int x2v)])) (mx := (fun μ8 => μ8)) (fun kk hx => vlp_X0_leastBy_14 G r0v hr0v x1v x2v kk hx FU x2 μ) (fun μ8 => ?_)
      refine v_iinc (n := 60) (w := -1) (fun x9 => [(2, .int x9), (0, .ref (G.2.1 r0v)), (1, .int x1v)]) dX0_leastBy_57 2 rfl ci_m1 (by decide) (fun _ => rfl) rfl (fun x9 => ?_)
      refine v_goto (tgt := 5) dX0_leastBy_60 (by decide) ?_
      exact v_sub [1, 2, 0] rfl (ih x9 μ8)
set_option maxRecDepth 100000 in
set_option maxHeartbeats 4000000 in
theorem v_X0_leastBy (G : GG) (q0 : Nat) (hq0 : isO q0 0) (a1 : Int32) (μ : Mem) : V G J_X0_leastBy 0 [(0, .ref (G.2.1 q0)), (1, .int a1)] [] μ (f_X0_leastBy q0 a1 μ) kI := by
  rw [f_X0_leastBy]
  refine v_aload_n (n := 1) dX0_leastBy_0 rfl 0 rfl rfl ?_
  refine v_getI (n := 4) (i := 8) dX0_leastBy_1 hq0 rfl fg_X0_59 rfl ?_
  refine v_lt (fun x1 => ?_)
  refine v_istore_n (n := 5) [(2, .int x1), (0, .ref (G.2.1 q0)), (1, .int a1)] dX0_leastBy_4 rfl (by decide) rfl rfl ?_
  refine v_sub [1, 2, 0] rfl ?_
  refine v_x1 (px := 63) (lx := (fun μ10 => [(0, .ref (G.2.1 q0))])) (mx := (fun μ10 => μ10)) (fun kk hx => vlp_X0_leastBy_5 G q0 hq0 a1 kk hx FU x1 μ) (fun μ10 => ?_)
  refine v_aload_n (n := 64) dX0_leastBy_63 rfl 0 rfl rfl ?_
  refine v_getR (n := 67) (i := 1) (q2 := (q0 + 2)) dX0_leastBy_64 hq0 rfl fg_X0_15 rfl ?_
  refine v_iconst (n := 68) (v := 0) dX0_leastBy_67 ci_0 rfl ?_
  refine v_iald (n := 69) dX0_leastBy_68 (ar0_1 hq0) rfl ?_
  refine v_cSi (n := 72) (st := []) [.int (μ10 (q0 + 2) (0 : Int32).toNatClampNeg)] dX0_leastBy_69 (fun t ht => M_X0_orNone G (μ10 (q0 + 2) (0 : Int32).toNatClampNeg) μ10 t ht) cal_X0_orNone mw69 rfl rfl (Nat.le_of_ble_eq_true rfl) ⟨Nat.le_of_ble_eq_true rfl, Nat.le_of_ble_eq_true rfl⟩ rfl (fun x12 μ11 => ?_)
  exact v_iret dX0_leastBy_72 rfl rfl
theorem M_X0_leastBy (G : GG) (q0 : Nat) (hq0 : isO q0 0) (a1 : Int32) (μ : Mem) (t : Int32 × Mem) (ht : f_X0_leastBy q0 a1 μ = some t) : GM G J_X0_leastBy yX0_leastBy [.ref (G.2.1 q0), .int a1] μ (oI t) :=
  gm_of (J := J_X0_leastBy) (k := kI) rfl (by decide) (Nat.le_of_ble_eq_true rfl) (v_X0_leastBy G q0 hq0 a1 μ) ht rfl
set_option maxRecDepth 100000 in
set_option maxHeartbeats 4000000 in
theorem vjn_X0_addOthers_62 (G : GG) (r0v : Nat) (hr0v : isO r0v 0) (x1v : Int32) (s0v : Int32) (μ : Mem) : V G J_X0_addOthers 62 [(0, .ref (G.2.1 r0v)), (1, .int x1v)] [.int s0v] μ (jn_X0_addOthers_62 r0v x1v s0v μ) kV := by
  rw [jn_X0_addOthers_62]
  refine v_istore (n := 64) [(6, .int s0v), (0, .ref (G.2.1 r0v)), (1, .int x1v)] dX0_addOthers_62 (by decide) rfl rfl ?_
  refine v_aload_n (n := 65) dX0_addOthers_64 rfl 1 rfl rfl ?_
  refine v_getR (n := 68) (i := 2) (q2 := (r0v + 3)) dX0_addOthers_65 hr0v rfl fg_X0_18 rfl ?_
  refine v_iload_n (n := 69) dX0_addOthers_68 rfl 2 rfl rfl ?_
  refine v_aload_n (n := 70) dX0_addOthers_69 rfl 1 rfl rfl ?_
  refine v_getR (n := 73) (i := 2) (q2 := (r0v + 3)) dX0_addOthers_70 hr0v rfl fg_X0_18 rfl ?_
  refine v_iload_n (n := 74) dX0_addOthers_73 rfl 2 rfl rfl ?_
  refine v_iald (n := 75) dX0_addOthers_74 (ar0_2 hr0v) rfl ?_
  refine v_iload (n := 77) dX0_addOthers_75 0 rfl rfl ?_
  refine v_mmin (n := 80) dX0_addOthers_77 mw71 mw72 mw55 cwm_min (Nat.le_of_ble_eq_true rfl) (Nat.le_of_ble_eq_true rfl) rfl ?_
  refine v_iast (n := 81) dX0_addOthers_80 (ar0_2 hr0v) rfl ?_
  refine v_lm (fun μ2 => ?_)
  exact v_vret dX0_addOthers_81 rfl rfl
set_option maxRecDepth 100000 in
set_option maxHeartbeats 4000000 in
theorem vjn_X0_addOthers_38 (G : GG) (r0v : Nat) (hr0v : isO r0v 0) (x1v : Int32) (x2v : Int32) (x3v : Int32) (x4v : Int32) (x5v : Int32) (μ : Mem) : V G J_X0_addOthers 38 [(0, .ref (G.2.1 r0v)), (1, .int x1v), (2, .int x2v), (3, .int x3v), (4, .int x4v), (5, .int x5v)] [] μ (jn_X0_addOthers_38 r0v x1v x2v x3v x4v x5v μ) kV := by
  rw [jn_X0_addOthers_38]
  refine v_iload_n (n := 39) dX0_addOthers_38 rfl 2 rfl rfl ?_
  refine v_aload_n (n := 40) dX0_addOthers_39 rfl 0 rfl rfl ?_
  refine v_getR (n := 43) (i := 4) (q2 := (r0v + 5)) dX0_addOthers_40 hr0v rfl fg_X0_24 rfl ?_
  refine v_iload_n (n := 44) dX0_addOthers_43 rfl 1 rfl rfl ?_
  refine v_iald (n := 45) dX0_addOthers_44 (ar0_4 hr0v) rfl ?_
  refine v_icmp_ne (tgt := 60) (n := 48) dX0_addOthers_45 (by decide) rfl ?_ ?_
  · refine v_iload_n (n := 49) dX0_addOthers_48 rfl 3 rfl rfl ?_
    refine v_aload_n (n := 50) dX0_addOthers_49 rfl 0 rfl rfl ?_
    refine v_getR (n := 53) (i := 2) (q2 := (r0v + 3)) dX0_addOthers_50 hr0v rfl fg_X0_18 rfl ?_
    refine v_iload (n := 55) dX0_addOthers_53 4 rfl rfl ?_
    refine v_iald (n := 56) dX0_addOthers_55 (ar0_2 hr0v) rfl ?_
    refine v_iadd (n := 57) dX0_addOthers_56 rfl ?_
    refine v_goto (tgt := 62) dX0_addOthers_57 (by decide) ?_
    exact v_sub [0, 1] rfl (vjn_X0_addOthers_62 G r0v hr0v x1v (x3v + μ (r0v + 3) x4v.toNatClampNeg) μ)
  · refine v_iload (n := 62) dX0_addOthers_60 5 rfl rfl ?_
    exact v_sub [0, 1] rfl (vjn_X0_addOthers_62 G r0v hr0v x1v x5v μ)
set_option maxRecDepth 100000 in
set_option maxHeartbeats 4000000 in
theorem v_X0_addOthers (G : GG) (q0 : Nat) (hq0 : isO q0 0) (a1 : Int32) (a2 : Int32) (a3 : Int32) (a4 : Int32) (μ : Mem) : V G J_X0_addOthers 0 [(0, .ref (G.2.1 q0)), (1, .int a1), (2, .int a2), (3, .int a3), (4, .int a4)] [] μ (f_X0_addOthers q0 a1 a2 a3 a4 μ) kV := by
  rw [f_X0_addOthers]
  refine v_iload_n (n := 1) dX0_addOthers_0 rfl 3 rfl rfl ?_
  refine v_aload_n (n := 2) dX0_addOthers_1 rfl 0 rfl rfl ?_
  refine v_getR (n := 5) (i := 1) (q2 := (q0 + 2)) dX0_addOthers_2 hq0 rfl fg_X0_15 rfl ?_
  refine v_iload (n := 7) dX0_addOthers_5 4 rfl rfl ?_
  refine v_iald (n := 8) dX0_addOthers_7 (ar0_1 hq0) rfl ?_
  refine v_iadd (n := 9) dX0_addOthers_8 rfl ?_
  refine v_lt (fun x1 => ?_)
  refine v_istore (n := 11) [(5, .int x1), (0, .ref (G.2.1 q0)), (1, .int a1), (2, .int a2), (3, .int a3), (4, .int a4)] dX0_addOthers_9 (by decide) rfl rfl ?_
  refine v_iload (n := 13) dX0_addOthers_11 0 rfl rfl ?_
  refine v_aload_n (n := 14) dX0_addOthers_13 rfl 1 rfl rfl ?_
  refine v_getR (n := 17) (i := 1) (q2 := (q0 + 2)) dX0_addOthers_14 hq0 rfl fg_X0_15 rfl ?_
  refine v_iload_n (n := 18) dX0_addOthers_17 rfl 2 rfl rfl ?_
  refine v_iald (n := 19) dX0_addOthers_18 (ar0_1 hq0) rfl ?_
  refine v_icmp_ne (tgt := 38) (n := 22) dX0_addOthers_19 (by decide) rfl ?_ ?_
  · refine v_aload_n (n := 23) dX0_addOthers_22 rfl 1 rfl rfl ?_
    refine v_getR (n := 26) (i := 3) (q2 := (q0 + 4)) dX0_addOthers_23 hq0 rfl fg_X0_21 rfl ?_
    refine v_iload_n (n := 27) dX0_addOthers_26 rfl 2 rfl rfl ?_
    refine v_dup2 (n := 28) dX0_addOthers_27 rfl rfl rfl ?_
    refine v_iald (n := 29) dX0_addOthers_28 (ar0_3 hq0) rfl ?_
    refine v_aload_n (n := 30) dX0_addOthers_29 rfl 1 rfl rfl ?_
    refine v_getR (n := 33) (i := 3) (q2 := (q0 + 4)) dX0_addOthers_30 hq0 rfl fg_X0_21 rfl ?_
    refine v_iload (n := 35) dX0_addOthers_33 5 rfl rfl ?_
    refine v_iald (n := 36) dX0_addOthers_35 (ar0_3 hq0) rfl ?_
    refine v_iadd (n := 37) dX0_addOthers_36 rfl ?_
    refine v_iast (n := 38) dX0_addOthers_37 (ar0_3 hq0) rfl ?_
    refine v_lm (fun μ3 => ?_)
    exact v_sub [1, 2, 3, 4, 5, 0] rfl (vjn_X0_addOthers_38 G q0 hq0 a1 a2 a3 a4 x1 μ3)
  · exact v_sub [1, 2, 3, 4, 5, 0] rfl (vjn_X0_addOthers_38 G q0 hq0 a1 a2 a3 a4 x1 μ)
theorem M_X0_addOthers (G : GG) (q0 : Nat) (hq0 : isO q0 0) (a1 : Int32) (a2 : Int32) (a3 : Int32) (a4 : Int32) (μ : Mem) (t : Mem) (ht : f_X0_addOthers q0 a1 a2 a3 a4 μ = some t) : GM G J_X0_addOthers yX0_addOthers [.ref (G.2.1 q0), .int a1, .int a2, .int a3, .int a4] μ (oV t) :=
  gm_of (J := J_X0_addOthers) (k := kV) rfl (by decide) (Nat.le_of_ble_eq_true rfl) (v_X0_addOthers G q0 hq0 a1 a2 a3 a4 μ) ht rfl
set_option maxRecDepth 100000 in
set_option maxHeartbeats 4000000 in
theorem vlp_X0_fillOthersAt_44 (G : GG) (r0v : Nat) (hr0v : isO r0v 0) (x1v : Int32) (kk : (Mem) → Option Oc) (hx : ∀ (μ : Mem), V G J_X0_fillOthersAt 87 [] [] μ (kk μ) some) : ∀ (n : Nat) (x2v : Int32) (μ : Mem), V G J_X0_fillOthersAt 44 [(0, .ref (G.2.1 r0v)), (1, .int x1v), (2, .int x2v)] [] μ (lp_X0_fillOthersAt_44 r0v x1v n x2v μ) kk := by
  intro n
  induction n with
  | zero => intro _ _; exact v_none
  | succ n ih =>
    intro x2v μ
    rw [lp_X0_fillOthersAt_44]
    refine v_iload_n (n := 45) dX0_fillOthersAt_44 rfl 2 rfl rfl ?_
    refine v_iconst (n := 46) (v := 5) dX0_fillOthersAt_45 ci_5 rfl ?_
    refine v_icmp_ge (tgt := 87) (n := 49) dX0_fillOthersAt_46 (by decide) rfl ?_ ?_
    · exact v_leaf (v_sub [] rfl (hx  μ))
    · refine v_aload_n (n := 50) dX0_fillOthersAt_49 rfl 0 rfl rfl ?_
      refine v_getR (n := 53) (i := 0) (q2 := (r0v + 1)) dX0_fillOthersAt_50 hr0v rfl fg_X0_9 rfl ?_
      refine v_iload_n (n := 54) dX0_fillOthersAt_53 rfl 2 rfl rfl ?_
      refine v_bipush (n := 56) (v := 64) dX0_fillOthersAt_54 cb_64 rfl ?_
      refine v_imul (n := 57) dX0_fillOthersAt_56 rfl ?_
      refine v_iload_n (n := 58) dX0_fillOthersAt_57 rfl 1 rfl rfl ?_
      refine v_iadd (n := 59) dX0_fillOthersAt_58 rfl ?_
      refine v_iald (n := 60) dX0_fillOthersAt_59 (ar0_0 hr0v) rfl ?_
      refine v_lt (fun x5 => ?_)
      refine v_istore_n (n := 61) [(3, .int x5), (0, .ref (G.2.1 r0v)), (1, .int x1v), (2, .int x2v)] dX0_fillOthersAt_60 rfl (by decide) rfl rfl ?_
      refine v_iload_n (n := 62) dX0_fillOthersAt_61 rfl 0 rfl rfl ?_
      refine v_ldc (n := 64) (v := 1000000) dX0_fillOthersAt_62 mw61 rfl ?_
      refine v_icmp_ge (tgt := 81) (n := 67) dX0_fillOthersAt_64 (by decide) rfl ?_ ?_
      · refine v_iinc (n := 84) (w := 1) (fun x6 => [(2, .int x6), (3, .int x5), (0, .ref (G.2.1 r0v)), (1, .int x1v)]) dX0_fillOthersAt_81 3 rfl ci_1 (by decide) (fun _ => rfl) rfl (fun x6 => ?_)
        refine v_goto (tgt := 44) dX0_fillOthersAt_84 (by decide) ?_
        exact v_sub [2, 3, 0] rfl (ih x6 μ)
      · refine v_aload_n (n := 68) dX0_fillOthersAt_67 rfl 1 rfl rfl ?_
        refine v_iload_n (n := 69) dX0_fillOthersAt_68 rfl 2 rfl rfl ?_
        refine v_iload_n (n := 70) dX0_fillOthersAt_69 rfl 3 rfl rfl ?_
        refine v_iload_n (n := 71) dX0_fillOthersAt_70 rfl 0 rfl rfl ?_
        refine v_iload_n (n := 72) dX0_fillOthersAt_71 rfl 2 rfl rfl ?_
        refine v_gets (n := 75) 2 dX0_fillOthersAt_72 (by decide) (by decide) rfl ?_
        refine v_iload_n (n := 76) dX0_fillOthersAt_75 rfl 3 rfl rfl ?_
        refine v_sald (n := 77) dX0_fillOthersAt_76 (by decide) rfl ?_
        refine v_iadd (n := 78) dX0_fillOthersAt_77 rfl ?_
        refine v_cVv (n := 81) (st := []) [.int x1v, .int x2v, .int x5, .int (x1v + stv 2 x2v.toNatClampNeg)] dX0_fillOthersAt_78 (fun t ht => M_X0_addOthers G r0v hr0v x1v x2v x5 (x1v + stv 2 x2v.toNatClampNeg) μ t ht) cal_X0_addOthers mw74 hr0v rfl rfl (Nat.le_of_ble_eq_true rfl) ⟨Nat.le_of_ble_eq_true rfl, Nat.le_of_ble_eq_true rfl⟩ rfl (fun μ7 => ?_)
        refine v_iinc (n := 84) (w := 1) (fun x8 => [(2, .int x8), (3, .int x5), (0, .ref (G.2.1 r0v)), (1, .int x1v)]) dX0_fillOthersAt_81 3 rfl ci_1 (by decide) (fun _ => rfl) rfl (fun x8 => ?_)
        refine v_goto (tgt := 44) dX0_fillOthersAt_84 (by decide) ?_
        exact v_sub [2, 3, 0] rfl (ih x8 μ7)
set_option maxRecDepth 100000 in
set_option maxHeartbeats 4000000 in
theorem vjn_X0_fillOthersAt_42 (G : GG) (r0v : Nat) (hr0v : isO r0v 0) (x1v : Int32) (μ : Mem) : V G J_X0_fillOthersAt 42 [(0, .ref (G.2.1 r0v)), (1, .int x1v)] [] μ (jn_X0_fillOthersAt_42 r0v x1v μ) kV := by
  rw [jn_X0_fillOthersAt_42]
  refine v_iconst (n := 43) (v := 0) dX0_fillOthersAt_42 ci_0 rfl ?_
  refine v_istore_n (n := 44) [(2, .int (0 : Int32)), (0, .ref (G.2.1 r0v)), (1, .int x1v)] dX0_fillOthersAt_43 rfl (by decide) rfl rfl ?_
  refine v_sub [1, 2, 0] rfl ?_
  refine v_x1 (px := 87) (lx := (fun μ9 => [])) (mx := (fun μ9 => μ9)) (fun kk hx => vlp_X0_fillOthersAt_44 G r0v hr0v x1v kk hx FU (0 : Int32) μ) (fun μ9 => ?_)
  exact v_vret dX0_fillOthersAt_87 rfl rfl
set_option maxRecDepth 100000 in
set_option maxHeartbeats 4000000 in
theorem v_X0_fillOthersAt (G : GG) (q0 : Nat) (hq0 : isO q0 0) (a1 : Int32) (μ : Mem) : V G J_X0_fillOthersAt 0 [(0, .ref (G.2.1 q0)), (1, .int a1)] [] μ (f_X0_fillOthersAt q0 a1 μ) kV := by
  rw [f_X0_fillOthersAt]
  refine v_aload_n (n := 1) dX0_fillOthersAt_0 rfl 0 rfl rfl ?_
  refine v_getR (n := 4) (i := 2) (q2 := (q0 + 3)) dX0_fillOthersAt_1 hq0 rfl fg_X0_18 rfl ?_
  refine v_iload_n (n := 5) dX0_fillOthersAt_4 rfl 1 rfl rfl ?_
  refine v_ldc (n := 7) (v := 1000000) dX0_fillOthersAt_5 mw61 rfl ?_
  refine v_iast (n := 8) dX0_fillOthersAt_7 (ar0_2 hq0) rfl ?_
  refine v_lm (fun μ1 => ?_)
  refine v_aload_n (n := 9) dX0_fillOthersAt_8 rfl 0 rfl rfl ?_
  refine v_getR (n := 12) (i := 3) (q2 := (q0 + 4)) dX0_fillOthersAt_9 hq0 rfl fg_X0_21 rfl ?_
  refine v_iload_n (n := 13) dX0_fillOthersAt_12 rfl 1 rfl rfl ?_
  refine v_iconst (n := 14) (v := 0) dX0_fillOthersAt_13 ci_0 rfl ?_
  refine v_iast (n := 15) dX0_fillOthersAt_14 (ar0_3 hq0) rfl ?_
  refine v_lm (fun μ2 => ?_)
  refine v_aload_n (n := 16) dX0_fillOthersAt_15 rfl 0 rfl rfl ?_
  refine v_getR (n := 19) (i := 1) (q2 := (q0 + 2)) dX0_fillOthersAt_16 hq0 rfl fg_X0_15 rfl ?_
  refine v_iload_n (n := 20) dX0_fillOthersAt_19 rfl 1 rfl rfl ?_
  refine v_iald (n := 21) dX0_fillOthersAt_20 (ar0_1 hq0) rfl ?_
  refine v_ldc (n := 23) (v := 1000000) dX0_fillOthersAt_21 mw61 rfl ?_
  refine v_icmp_lt (tgt := 27) (n := 26) dX0_fillOthersAt_23 (by decide) rfl ?_ ?_
  · refine v_iload_n (n := 28) dX0_fillOthersAt_27 rfl 1 rfl rfl ?_
    refine v_aload_n (n := 29) dX0_fillOthersAt_28 rfl 0 rfl rfl ?_
    refine v_cVi (n := 32) (st := [.int a1]) [] dX0_fillOthersAt_29 (fun t ht => M_X0_end G q0 hq0 μ2 t ht) cal_X0_end mw64 hq0 rfl rfl (Nat.le_of_ble_eq_true rfl) ⟨Nat.le_of_ble_eq_true rfl, Nat.le_of_ble_eq_true rfl⟩ rfl (fun x4 μ3 => ?_)
    refine v_icmp_ne (tgt := 42) (n := 35) dX0_fillOthersAt_32 (by decide) rfl ?_ ?_
    · refine v_aload_n (n := 36) dX0_fillOthersAt_35 rfl 0 rfl rfl ?_
      refine v_getR (n := 39) (i := 3) (q2 := (q0 + 4)) dX0_fillOthersAt_36 hq0 rfl fg_X0_21 rfl ?_
      refine v_iload_n (n := 40) dX0_fillOthersAt_39 rfl 1 rfl rfl ?_
      refine v_iconst (n := 41) (v := 1) dX0_fillOthersAt_40 ci_1 rfl ?_
      refine v_iast (n := 42) dX0_fillOthersAt_41 (ar0_3 hq0) rfl ?_
      refine v_lm (fun μ10 => ?_)
      exact vjn_X0_fillOthersAt_42 G q0 hq0 a1 μ10
    · exact vjn_X0_fillOthersAt_42 G q0 hq0 a1 μ3
  · exact v_vret dX0_fillOthersAt_26 rfl rfl
theorem M_X0_fillOthersAt (G : GG) (q0 : Nat) (hq0 : isO q0 0) (a1 : Int32) (μ : Mem) (t : Mem) (ht : f_X0_fillOthersAt q0 a1 μ = some t) : GM G J_X0_fillOthersAt yX0_fillOthersAt [.ref (G.2.1 q0), .int a1] μ (oV t) :=
  gm_of (J := J_X0_fillOthersAt) (k := kV) rfl (by decide) (Nat.le_of_ble_eq_true rfl) (v_X0_fillOthersAt G q0 hq0 a1 μ) ht rfl
