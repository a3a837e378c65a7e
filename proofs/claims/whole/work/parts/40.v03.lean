set_option maxRecDepth 100000 in
set_option maxHeartbeats 4000000 in
theorem v_X4_by (G : GG) (a1 : Int32) (μ : Mem) : V G J_X4_by 0 [(0, .ref (G.2.1 0)), (1, .int a1)] [] μ (f_X4_by a1 μ) kI := by
  rw [f_X4_by]
  refine v_iconst (n := 1) (v := 2) dX4_by_0 ci_2 rfl ?_
  refine v_iload_n (n := 2) dX4_by_1 rfl 1 rfl rfl ?_
  refine v_cSi (n := 5) (st := []) [.int (2 : Int32), .int a1] dX4_by_2 (fun t ht => M_X4_isPrice G (2 : Int32) a1 μ t ht) cal_X4_isPrice mw102 rfl rfl (Nat.le_of_ble_eq_true rfl) ⟨Nat.le_of_ble_eq_true rfl, Nat.le_of_ble_eq_true rfl⟩ rfl (fun x2 μ1 => ?_)
  refine v_if_ne (tgt := 11) (n := 8) dX4_by_5 (by decide) rfl ?_ ?_
  · refine v_bipush (n := 10) (v := -2) dX4_by_8 cb_m2 rfl ?_
    exact v_iret dX4_by_10 rfl rfl
  · refine v_aload_n (n := 12) dX4_by_11 rfl 0 rfl rfl ?_
    refine v_getR (n := 15) (i := 1) (q2 := 2) dX4_by_12 (show isO 0 4 from rfl) rfl fg_X4_20 rfl ?_
    refine v_cVi (n := 18) (st := []) [] dX4_by_15 (fun t ht => M_X1_areThere G 2 (show isO 2 1 from rfl) μ1 t ht) cal_X1_areThere mw101 (show isO 2 1 from rfl) rfl rfl (Nat.le_of_ble_eq_true rfl) ⟨Nat.le_of_ble_eq_true rfl, Nat.le_of_ble_eq_true rfl⟩ rfl (fun x4 μ3 => ?_)
    refine v_if_ne (tgt := 24) (n := 21) dX4_by_18 (by decide) rfl ?_ ?_
    · refine v_bipush (n := 23) (v := -3) dX4_by_21 cb_m3 rfl ?_
      exact v_iret dX4_by_23 rfl rfl
    · refine v_aload_n (n := 25) dX4_by_24 rfl 0 rfl rfl ?_
      refine v_getR (n := 28) (i := 4) (q2 := 23) dX4_by_25 (show isO 0 4 from rfl) rfl fg_X4_34 rfl ?_
      refine v_aload_n (n := 29) dX4_by_28 rfl 0 rfl rfl ?_
      refine v_getR (n := 32) (i := 1) (q2 := 2) dX4_by_29 (show isO 0 4 from rfl) rfl fg_X4_20 rfl ?_
      refine v_cVv (n := 35) (st := []) [.ref (G.2.1 2)] dX4_by_32 (fun t ht => M_X0_take G 23 (show isO 23 0 from rfl) 2 (show isO 2 1 from rfl) μ3 t ht) cal_X0_take mw124 (show isO 23 0 from rfl) rfl rfl (Nat.le_of_ble_eq_true rfl) ⟨Nat.le_of_ble_eq_true rfl, Nat.le_of_ble_eq_true rfl⟩ rfl (fun μ5 => ?_)
      refine v_aload_n (n := 36) dX4_by_35 rfl 0 rfl rfl ?_
      refine v_getR (n := 39) (i := 4) (q2 := 23) dX4_by_36 (show isO 0 4 from rfl) rfl fg_X4_34 rfl ?_
      refine v_iload_n (n := 40) dX4_by_39 rfl 1 rfl rfl ?_
      refine v_cVi (n := 43) (st := []) [.int a1] dX4_by_40 (fun t ht => M_X0_leastBy G 23 (show isO 23 0 from rfl) a1 μ5 t ht) cal_X0_leastBy mw125 (show isO 23 0 from rfl) rfl rfl (Nat.le_of_ble_eq_true rfl) ⟨Nat.le_of_ble_eq_true rfl, Nat.le_of_ble_eq_true rfl⟩ rfl (fun x7 μ6 => ?_)
      exact v_iret dX4_by_43 rfl rfl
theorem M_X4_by (G : GG) (a1 : Int32) (μ : Mem) (t : Int32 × Mem) (ht : f_X4_by a1 μ = some t) : GM G J_X4_by yX4_by [.ref (G.2.1 0), .int a1] μ (oI t) :=
  gm_of (J := J_X4_by) (k := kI) rfl (by decide) (Nat.le_of_ble_eq_true rfl) (v_X4_by G a1 μ) ht rfl
set_option maxRecDepth 100000 in
set_option maxHeartbeats 4000000 in
theorem vlp_X4_enough_36 (G : GG) (x1v : Int32) (kk : (Int32 × Mem) → Option Oc) (hx : ∀ (x2v : Int32) (μ : Mem), V G J_X4_enough 60 [(2, .int x2v)] [] μ (kk (x2v, μ)) some) : ∀ (n : Nat) (x2v : Int32) (μ : Mem), V G J_X4_enough 36 [(0, .ref (G.2.1 0)), (1, .int x1v), (2, .int x2v)] [] μ (lp_X4_enough_36 x1v n x2v μ) kk := by
  intro n
  induction n with
  | zero => intro _ _; exact v_none
  | succ n ih =>
    intro x2v μ
    rw [lp_X4_enough_36]
    refine v_iload_n (n := 37) dX4_enough_36 rfl 2 rfl rfl ?_
    refine v_bipush (n := 39) (v := 7) dX4_enough_37 cb_7 rfl ?_
    refine v_icmp_ge (tgt := 60) (n := 42) dX4_enough_39 (by decide) rfl ?_ ?_
    · exact v_leaf (v_sub [2] rfl (hx x2v μ))
    · refine v_aload_n (n := 43) dX4_enough_42 rfl 0 rfl rfl ?_
      refine v_getR (n := 46) (i := 4) (q2 := 23) dX4_enough_43 (show isO 0 4 from rfl) rfl fg_X4_34 rfl ?_
      refine v_iload_n (n := 47) dX4_enough_46 rfl 2 rfl rfl ?_
      refine v_cVi (n := 50) (st := []) [.int x2v] dX4_enough_47 (fun t ht => M_X0_leastBy G 23 (show isO 23 0 from rfl) x2v μ t ht) cal_X0_leastBy mw125 (show isO 23 0 from rfl) rfl rfl (Nat.le_of_ble_eq_true rfl) ⟨Nat.le_of_ble_eq_true rfl, Nat.le_of_ble_eq_true rfl⟩ rfl (fun x7 μ6 => ?_)
      refine v_iload_n (n := 51) dX4_enough_50 rfl 1 rfl rfl ?_
      refine v_icmp_eq (tgt := 60) (n := 54) dX4_enough_51 (by decide) rfl ?_ ?_
      · exact v_leaf (v_sub [2] rfl (hx x2v μ6))
      · refine v_iinc (n := 57) (w := 1) (fun x8 => [(2, .int x8), (0, .ref (G.2.1 0)), (1, .int x1v)]) dX4_enough_54 2 rfl ci_1 (by decide) (fun _ => rfl) rfl (fun x8 => ?_)
        refine v_goto (tgt := 36) dX4_enough_57 (by decide) ?_
        exact v_sub [1, 2, 0] rfl (ih x8 μ6)
set_option maxRecDepth 100000 in
set_option maxHeartbeats 4000000 in
theorem v_X4_enough (G : GG) (μ : Mem) : V G J_X4_enough 0 [(0, .ref (G.2.1 0))] [] μ (f_X4_enough μ) kI := by
  rw [f_X4_enough]
  refine v_aload_n (n := 1) dX4_enough_0 rfl 0 rfl rfl ?_
  refine v_getR (n := 4) (i := 1) (q2 := 2) dX4_enough_1 (show isO 0 4 from rfl) rfl fg_X4_20 rfl ?_
  refine v_cVi (n := 7) (st := []) [] dX4_enough_4 (fun t ht => M_X1_areThere G 2 (show isO 2 1 from rfl) μ t ht) cal_X1_areThere mw101 (show isO 2 1 from rfl) rfl rfl (Nat.le_of_ble_eq_true rfl) ⟨Nat.le_of_ble_eq_true rfl, Nat.le_of_ble_eq_true rfl⟩ rfl (fun x2 μ1 => ?_)
  refine v_if_ne (tgt := 13) (n := 10) dX4_enough_7 (by decide) rfl ?_ ?_
  · refine v_bipush (n := 12) (v := -3) dX4_enough_10 cb_m3 rfl ?_
    exact v_iret dX4_enough_12 rfl rfl
  · refine v_aload_n (n := 14) dX4_enough_13 rfl 0 rfl rfl ?_
    refine v_getR (n := 17) (i := 4) (q2 := 23) dX4_enough_14 (show isO 0 4 from rfl) rfl fg_X4_34 rfl ?_
    refine v_aload_n (n := 18) dX4_enough_17 rfl 0 rfl rfl ?_
    refine v_getR (n := 21) (i := 1) (q2 := 2) dX4_enough_18 (show isO 0 4 from rfl) rfl fg_X4_20 rfl ?_
    refine v_cVv (n := 24) (st := []) [.ref (G.2.1 2)] dX4_enough_21 (fun t ht => M_X0_take G 23 (show isO 23 0 from rfl) 2 (show isO 2 1 from rfl) μ1 t ht) cal_X0_take mw124 (show isO 23 0 from rfl) rfl rfl (Nat.le_of_ble_eq_true rfl) ⟨Nat.le_of_ble_eq_true rfl, Nat.le_of_ble_eq_true rfl⟩ rfl (fun μ3 => ?_)
    refine v_aload_n (n := 25) dX4_enough_24 rfl 0 rfl rfl ?_
    refine v_getR (n := 28) (i := 4) (q2 := 23) dX4_enough_25 (show isO 0 4 from rfl) rfl fg_X4_34 rfl ?_
    refine v_bipush (n := 30) (v := 7) dX4_enough_28 cb_7 rfl ?_
    refine v_cVi (n := 33) (st := []) [.int (7 : Int32)] dX4_enough_30 (fun t ht => M_X0_leastBy G 23 (show isO 23 0 from rfl) (7 : Int32) μ3 t ht) cal_X0_leastBy mw125 (show isO 23 0 from rfl) rfl rfl (Nat.le_of_ble_eq_true rfl) ⟨Nat.le_of_ble_eq_true rfl, Nat.le_of_ble_eq_true rfl⟩ rfl (fun x5 μ4 => ?_)
    refine v_istore_n (n := 34) [(1, .int x5), (0, .ref (G.2.1 0))] dX4_enough_33 rfl (by decide) rfl rfl ?_
    refine v_iconst (n := 35) (v := 0) dX4_enough_34 ci_0 rfl ?_
    refine v_istore_n (n := 36) [(2, .int (0 : Int32)), (1, .int x5), (0, .ref (G.2.1 0))] dX4_enough_35 rfl (by decide) rfl rfl ?_
    refine v_sub [2, 1, 0] rfl ?_
    refine v_x2 (px := 60) (lx := (fun x9 μ10 => [(2, .int x9)])) (mx := (fun x9 μ10 => μ10)) (fun kk hx => vlp_X4_enough_36 G x5 kk hx FU (0 : Int32) μ4) (fun x9 μ10 => ?_)
    refine v_iload_n (n := 61) dX4_enough_60 rfl 0 rfl rfl ?_
    exact v_iret dX4_enough_61 rfl rfl
theorem M_X4_enough (G : GG) (μ : Mem) (t : Int32 × Mem) (ht : f_X4_enough μ = some t) : GM G J_X4_enough yX4_enough [.ref (G.2.1 0)] μ (oI t) :=
  gm_of (J := J_X4_enough) (k := kI) rfl (by decide) (Nat.le_of_ble_eq_true rfl) (v_X4_enough G μ) ht rfl
set_option maxRecDepth 100000 in
set_option maxHeartbeats 4000000 in
theorem vjn_X4_reading_41 (G : GG) (x1v : Int32) (x2v : Int32) (μ : Mem) : V G J_X4_reading 41 [(0, .ref (G.2.1 0)), (1, .int x1v), (2, .int x2v)] [] μ (jn_X4_reading_41 x1v x2v μ) kI := by
  rw [jn_X4_reading_41]
  refine v_aload_n (n := 42) dX4_reading_41 rfl 0 rfl rfl ?_
  refine v_getI (n := 45) (i := 8) dX4_reading_42 (show isO 0 4 from rfl) rfl fg_X4_82 rfl ?_
  refine v_bipush (n := 47) (v := 8) dX4_reading_45 cb_8 rfl ?_
  refine v_icmp_lt (tgt := 53) (n := 50) dX4_reading_47 (by decide) rfl ?_ ?_
  · refine v_aload_n (n := 54) dX4_reading_53 rfl 0 rfl rfl ?_
    refine v_getR (n := 57) (i := 6) (q2 := 33) dX4_reading_54 (show isO 0 4 from rfl) rfl fg_X4_44 rfl ?_
    refine v_aload_n (n := 58) dX4_reading_57 rfl 0 rfl rfl ?_
    refine v_getI (n := 61) (i := 8) dX4_reading_58 (show isO 0 4 from rfl) rfl fg_X4_82 rfl ?_
    refine v_iload_n (n := 62) dX4_reading_61 rfl 1 rfl rfl ?_
    refine v_iast (n := 63) dX4_reading_62 (show isA 33 8 from rfl) rfl ?_
    refine v_lm (fun μ5 => ?_)
    refine v_aload_n (n := 64) dX4_reading_63 rfl 0 rfl rfl ?_
    refine v_getR (n := 67) (i := 7) (q2 := 34) dX4_reading_64 (show isO 0 4 from rfl) rfl fg_X4_48 rfl ?_
    refine v_aload_n (n := 68) dX4_reading_67 rfl 0 rfl rfl ?_
    refine v_getI (n := 71) (i := 8) dX4_reading_68 (show isO 0 4 from rfl) rfl fg_X4_82 rfl ?_
    refine v_iload_n (n := 72) dX4_reading_71 rfl 2 rfl rfl ?_
    refine v_iast (n := 73) dX4_reading_72 (show isA 34 8 from rfl) rfl ?_
    refine v_lm (fun μ6 => ?_)
    refine v_aload_n (n := 74) dX4_reading_73 rfl 0 rfl rfl ?_
    refine v_dup (n := 75) dX4_reading_74 rfl rfl ?_
    refine v_getI (n := 78) (i := 8) dX4_reading_75 (show isO 0 4 from rfl) rfl fg_X4_82 rfl ?_
    refine v_iconst (n := 79) (v := 1) dX4_reading_78 ci_1 rfl ?_
    refine v_iadd (n := 80) dX4_reading_79 rfl ?_
    refine v_put (n := 83) (i := 8) dX4_reading_80 (show isO 0 4 from rfl) rfl fp_X4_82 rfl rfl rfl ?_
    refine v_lm (fun μ7 => ?_)
    refine v_aload_n (n := 84) dX4_reading_83 rfl 0 rfl rfl ?_
    refine v_getI (n := 87) (i := 8) dX4_reading_84 (show isO 0 4 from rfl) rfl fg_X4_82 rfl ?_
    refine v_iconst (n := 88) (v := 1) dX4_reading_87 ci_1 rfl ?_
    refine v_isub (n := 89) dX4_reading_88 rfl ?_
    exact v_iret dX4_reading_89 rfl rfl
  · refine v_bipush (n := 52) (v := -4) dX4_reading_50 cb_m4 rfl ?_
    exact v_iret dX4_reading_52 rfl rfl
set_option maxRecDepth 100000 in
set_option maxHeartbeats 4000000 in
theorem v_X4_reading (G : GG) (a1 : Int32) (a2 : Int32) (μ : Mem) : V G J_X4_reading 0 [(0, .ref (G.2.1 0)), (1, .int a1), (2, .int a2)] [] μ (f_X4_reading a1 a2 μ) kI := by
  rw [f_X4_reading]
  refine v_aload_n (n := 1) dX4_reading_0 rfl 0 rfl rfl ?_
  refine v_getR (n := 4) (i := 1) (q2 := 2) dX4_reading_1 (show isO 0 4 from rfl) rfl fg_X4_20 rfl ?_
  refine v_cVi (n := 7) (st := []) [] dX4_reading_4 (fun t ht => M_X1_areThere G 2 (show isO 2 1 from rfl) μ t ht) cal_X1_areThere mw101 (show isO 2 1 from rfl) rfl rfl (Nat.le_of_ble_eq_true rfl) ⟨Nat.le_of_ble_eq_true rfl, Nat.le_of_ble_eq_true rfl⟩ rfl (fun x2 μ1 => ?_)
  refine v_if_ne (tgt := 13) (n := 10) dX4_reading_7 (by decide) rfl ?_ ?_
  · refine v_bipush (n := 12) (v := -3) dX4_reading_10 cb_m3 rfl ?_
    exact v_iret dX4_reading_12 rfl rfl
  · refine v_iconst (n := 14) (v := 2) dX4_reading_13 ci_2 rfl ?_
    refine v_iload_n (n := 15) dX4_reading_14 rfl 1 rfl rfl ?_
    refine v_cSi (n := 18) (st := []) [.int (2 : Int32), .int a1] dX4_reading_15 (fun t ht => M_X4_isPrice G (2 : Int32) a1 μ1 t ht) cal_X4_isPrice mw102 rfl rfl (Nat.le_of_ble_eq_true rfl) ⟨Nat.le_of_ble_eq_true rfl, Nat.le_of_ble_eq_true rfl⟩ rfl (fun x4 μ3 => ?_)
    refine v_if_eq (tgt := 38) (n := 21) dX4_reading_18 (by decide) rfl ?_ ?_
    · refine v_bipush (n := 40) (v := -2) dX4_reading_38 cb_m2 rfl ?_
      exact v_iret dX4_reading_40 rfl rfl
    · refine v_iload_n (n := 22) dX4_reading_21 rfl 2 rfl rfl ?_
      refine v_bipush (n := 24) (v := -9) dX4_reading_22 cb_m9 rfl ?_
      refine v_icmp_eq (tgt := 41) (n := 27) dX4_reading_24 (by decide) rfl ?_ ?_
      · exact vjn_X4_reading_41 G a1 a2 μ3
      · refine v_iload_n (n := 28) dX4_reading_27 rfl 2 rfl rfl ?_
        refine v_if_lt (tgt := 38) (n := 31) dX4_reading_28 (by decide) rfl ?_ ?_
        · refine v_bipush (n := 40) (v := -2) dX4_reading_38 cb_m2 rfl ?_
          exact v_iret dX4_reading_40 rfl rfl
        · refine v_iload_n (n := 32) dX4_reading_31 rfl 2 rfl rfl ?_
          refine v_sipush (n := 35) (v := 500) dX4_reading_32 cs_500 rfl ?_
          refine v_icmp_le (tgt := 41) (n := 38) dX4_reading_35 (by decide) rfl ?_ ?_
          · exact vjn_X4_reading_41 G a1 a2 μ3
          · refine v_bipush (n := 40) (v := -2) dX4_reading_38 cb_m2 rfl ?_
            exact v_iret dX4_reading_40 rfl rfl
theorem M_X4_reading (G : GG) (a1 : Int32) (a2 : Int32) (μ : Mem) (t : Int32 × Mem) (ht : f_X4_reading a1 a2 μ = some t) : GM G J_X4_reading yX4_reading [.ref (G.2.1 0), .int a1, .int a2] μ (oI t) :=
  gm_of (J := J_X4_reading) (k := kI) rfl (by decide) (Nat.le_of_ble_eq_true rfl) (v_X4_reading G a1 a2 μ) ht rfl
set_option maxRecDepth 100000 in
set_option maxHeartbeats 4000000 in
theorem v_X4_back (G : GG) (a1 : Int32) (μ : Mem) : V G J_X4_back 0 [(0, .ref (G.2.1 0)), (1, .int a1)] [] μ (f_X4_back a1 μ) kI := by
  rw [f_X4_back]
  refine v_iload_n (n := 1) dX4_back_0 rfl 1 rfl rfl ?_
  refine v_if_lt (tgt := 12) (n := 4) dX4_back_1 (by decide) rfl ?_ ?_
  · refine v_bipush (n := 14) (v := -2) dX4_back_12 cb_m2 rfl ?_
    exact v_iret dX4_back_14 rfl rfl
  · refine v_iload_n (n := 5) dX4_back_4 rfl 1 rfl rfl ?_
    refine v_aload_n (n := 6) dX4_back_5 rfl 0 rfl rfl ?_
    refine v_getI (n := 9) (i := 8) dX4_back_6 (show isO 0 4 from rfl) rfl fg_X4_82 rfl ?_
    refine v_icmp_le (tgt := 15) (n := 12) dX4_back_9 (by decide) rfl ?_ ?_
    · refine v_aload_n (n := 16) dX4_back_15 rfl 0 rfl rfl ?_
      refine v_dup (n := 17) dX4_back_16 rfl rfl ?_
      refine v_getI (n := 20) (i := 8) dX4_back_17 (show isO 0 4 from rfl) rfl fg_X4_82 rfl ?_
      refine v_iload_n (n := 21) dX4_back_20 rfl 1 rfl rfl ?_
      refine v_isub (n := 22) dX4_back_21 rfl ?_
      refine v_put (n := 25) (i := 8) dX4_back_22 (show isO 0 4 from rfl) rfl fp_X4_82 rfl rfl rfl ?_
      refine v_lm (fun μ1 => ?_)
      refine v_aload_n (n := 26) dX4_back_25 rfl 0 rfl rfl ?_
      refine v_getI (n := 29) (i := 8) dX4_back_26 (show isO 0 4 from rfl) rfl fg_X4_82 rfl ?_
      exact v_iret dX4_back_29 rfl rfl
    · refine v_bipush (n := 14) (v := -2) dX4_back_12 cb_m2 rfl ?_
      exact v_iret dX4_back_14 rfl rfl
theorem M_X4_back (G : GG) (a1 : Int32) (μ : Mem) (t : Int32 × Mem) (ht : f_X4_back a1 μ = some t) : GM G J_X4_back yX4_back [.ref (G.2.1 0), .int a1] μ (oI t) :=
  gm_of (J := J_X4_back) (k := kI) rfl (by decide) (Nat.le_of_ble_eq_true rfl) (v_X4_back G a1 μ) ht rfl
set_option maxRecDepth 100000 in
set_option maxHeartbeats 4000000 in
theorem vlp_X4_readingsHoldIfSupposed_13 (G : GG) (kk : ((Mem) ⊕ (Int32 × Mem)) → Option Oc) (hx : ∀ (μ : Mem), V G J_X4_readingsHoldIfSupposed 51 [] [] μ (kk (.inl μ)) some) (ho : ∀ t, kk (.inr t) = some (oI t)) : ∀ (n : Nat) (x1v : Int32) (μ : Mem), V G J_X4_readingsHoldIfSupposed 13 [(0, .ref (G.2.1 0)), (1, .int x1v)] [] μ (lp_X4_readingsHoldIfSupposed_13 n x1v μ) kk := by
  intro n
  induction n with
  | zero => intro _ _; exact v_none
  | succ n ih =>
    intro x1v μ
    rw [lp_X4_readingsHoldIfSupposed_13]
    refine v_iload_n (n := 14) dX4_readingsHoldIfSupposed_13 rfl 1 rfl rfl ?_
    refine v_aload_n (n := 15) dX4_readingsHoldIfSupposed_14 rfl 0 rfl rfl ?_
    refine v_getI (n := 18) (i := 8) dX4_readingsHoldIfSupposed_15 (show isO 0 4 from rfl) rfl fg_X4_82 rfl ?_
    refine v_icmp_ge (tgt := 51) (n := 21) dX4_readingsHoldIfSupposed_18 (by decide) rfl ?_ ?_
    · exact v_leaf (v_sub [] rfl (hx  μ))
    · refine v_aload_n (n := 22) dX4_readingsHoldIfSupposed_21 rfl 0 rfl rfl ?_
      refine v_getR (n := 25) (i := 4) (q2 := 23) dX4_readingsHoldIfSupposed_22 (show isO 0 4 from rfl) rfl fg_X4_34 rfl ?_
      refine v_aload_n (n := 26) dX4_readingsHoldIfSupposed_25 rfl 0 rfl rfl ?_
      refine v_getR (n := 29) (i := 6) (q2 := 33) dX4_readingsHoldIfSupposed_26 (show isO 0 4 from rfl) rfl fg_X4_44 rfl ?_
      refine v_iload_n (n := 30) dX4_readingsHoldIfSupposed_29 rfl 1 rfl rfl ?_
      refine v_iald (n := 31) dX4_readingsHoldIfSupposed_30 (show isA 33 8 from rfl) rfl ?_
      refine v_cVi (n := 34) (st := []) [.int (μ 33 x1v.toNatClampNeg)] dX4_readingsHoldIfSupposed_31 (fun t ht => M_X0_leastBy G 23 (show isO 23 0 from rfl) (μ 33 x1v.toNatClampNeg) μ t ht) cal_X0_leastBy mw125 (show isO 23 0 from rfl) rfl rfl (Nat.le_of_ble_eq_true rfl) ⟨Nat.le_of_ble_eq_true rfl, Nat.le_of_ble_eq_true rfl⟩ rfl (fun x3 μ2 => ?_)
      refine v_aload_n (n := 35) dX4_readingsHoldIfSupposed_34 rfl 0 rfl rfl ?_
      refine v_getR (n := 38) (i := 7) (q2 := 34) dX4_readingsHoldIfSupposed_35 (show isO 0 4 from rfl) rfl fg_X4_48 rfl ?_
      refine v_iload_n (n := 39) dX4_readingsHoldIfSupposed_38 rfl 1 rfl rfl ?_
      refine v_iald (n := 40) dX4_readingsHoldIfSupposed_39 (show isA 34 8 from rfl) rfl ?_
      refine v_icmp_eq (tgt := 45) (n := 43) dX4_readingsHoldIfSupposed_40 (by decide) rfl ?_ ?_
      · refine v_iinc (n := 48) (w := 1) (fun x4 => [(1, .int x4), (0, .ref (G.2.1 0))]) dX4_readingsHoldIfSupposed_45 1 rfl ci_1 (by decide) (fun _ => rfl) rfl (fun x4 => ?_)
        refine v_goto (tgt := 13) dX4_readingsHoldIfSupposed_48 (by decide) ?_
        exact v_sub [1, 0] rfl (ih x4 μ2)
      · refine v_iconst (n := 44) (v := 0) dX4_readingsHoldIfSupposed_43 ci_0 rfl ?_
        exact v_zret dX4_readingsHoldIfSupposed_44 rfl (by decide) (ho _)
set_option maxRecDepth 100000 in
set_option maxHeartbeats 4000000 in
theorem v_X4_readingsHoldIfSupposed (G : GG) (μ : Mem) : V G J_X4_readingsHoldIfSupposed 0 [(0, .ref (G.2.1 0))] [] μ (f_X4_readingsHoldIfSupposed μ) kI := by
  rw [f_X4_readingsHoldIfSupposed]
  refine v_aload_n (n := 1) dX4_readingsHoldIfSupposed_0 rfl 0 rfl rfl ?_
  refine v_getR (n := 4) (i := 4) (q2 := 23) dX4_readingsHoldIfSupposed_1 (show isO 0 4 from rfl) rfl fg_X4_34 rfl ?_
  refine v_aload_n (n := 5) dX4_readingsHoldIfSupposed_4 rfl 0 rfl rfl ?_
  refine v_getR (n := 8) (i := 2) (q2 := 8) dX4_readingsHoldIfSupposed_5 (show isO 0 4 from rfl) rfl fg_X4_24 rfl ?_
  refine v_cVv (n := 11) (st := []) [.ref (G.2.1 8)] dX4_readingsHoldIfSupposed_8 (fun t ht => M_X0_take G 23 (show isO 23 0 from rfl) 8 (show isO 8 1 from rfl) μ t ht) cal_X0_take mw124 (show isO 23 0 from rfl) rfl rfl (Nat.le_of_ble_eq_true rfl) ⟨Nat.le_of_ble_eq_true rfl, Nat.le_of_ble_eq_true rfl⟩ rfl (fun μ1 => ?_)
  refine v_iconst (n := 12) (v := 0) dX4_readingsHoldIfSupposed_11 ci_0 rfl ?_
  refine v_istore_n (n := 13) [(1, .int (0 : Int32)), (0, .ref (G.2.1 0))] dX4_readingsHoldIfSupposed_12 rfl (by decide) rfl rfl ?_
  refine v_sub [1, 0] rfl ?_
  refine v_s1 (px := 51) (lx := (fun μ5 => [])) (mx := (fun μ5 => μ5)) (oX := oI) (fun kk hx ho => vlp_X4_readingsHoldIfSupposed_13 G  kk hx ho FU (0 : Int32) μ1) (fun _ => rfl) (fun μ5 => ?_)
  refine v_iconst (n := 52) (v := 1) dX4_readingsHoldIfSupposed_51 ci_1 rfl ?_
  exact v_zret dX4_readingsHoldIfSupposed_52 rfl (by decide) rfl
theorem M_X4_readingsHoldIfSupposed (G : GG) (μ : Mem) (t : Int32 × Mem) (ht : f_X4_readingsHoldIfSupposed μ = some t) : GM G J_X4_readingsHoldIfSupposed yX4_readingsHoldIfSupposed [.ref (G.2.1 0)] μ (oI t) :=
  gm_of (J := J_X4_readingsHoldIfSupposed) (k := kI) rfl (by decide) (Nat.le_of_ble_eq_true rfl) (v_X4_readingsHoldIfSupposed G μ) ht rfl
set_option maxRecDepth 100000 in
set_option maxHeartbeats 4000000 in
theorem vlp_X4_kinds_28 (G : GG) (x1v : Int32) (kk : (Int32 × Mem) → Option Oc) (hx : ∀ (x2v : Int32) (μ : Mem), V G J_X4_kinds 62 [(2, .int x2v)] [] μ (kk (x2v, μ)) some) : ∀ (n : Nat) (x2v : Int32) (x3v : Int32) (μ : Mem), V G J_X4_kinds 28 [(0, .ref (G.2.1 0)), (1, .int x1v), (2, .int x2v), (3, .int x3v)] [] μ (lp_X4_kinds_28 x1v n x2v x3v μ) kk := by
  intro n
  induction n with
  | zero => intro _ _ _; exact v_none
  | succ n ih =>
    intro x2v x3v μ
    rw [lp_X4_kinds_28]
    refine v_iload_n (n := 29) dX4_kinds_28 rfl 3 rfl rfl ?_
    refine v_iconst (n := 30) (v := 3) dX4_kinds_29 ci_3 rfl ?_
    refine v_icmp_ge (tgt := 62) (n := 33) dX4_kinds_30 (by decide) rfl ?_ ?_
    · exact v_leaf (v_sub [2] rfl (hx x2v μ))
    · refine v_aload_n (n := 34) dX4_kinds_33 rfl 0 rfl rfl ?_
      refine v_getR (n := 37) (i := 2) (q2 := 8) dX4_kinds_34 (show isO 0 4 from rfl) rfl fg_X4_24 rfl ?_
      refine v_getR (n := 40) (i := 0) (q2 := 9) dX4_kinds_37 (show isO 8 1 from rfl) rfl fg_X4_98 rfl ?_
      refine v_iload_n (n := 41) dX4_kinds_40 rfl 1 rfl rfl ?_
      refine v_iload_n (n := 42) dX4_kinds_41 rfl 3 rfl rfl ?_
      refine v_iast (n := 43) dX4_kinds_42 (show isA 9 7 from rfl) rfl ?_
      refine v_lm (fun μ4 => ?_)
      refine v_aload_n (n := 44) dX4_kinds_43 rfl 0 rfl rfl ?_
      refine v_cVi (n := 47) (st := []) [] dX4_kinds_44 (fun t ht => M_X4_readingsHoldIfSupposed G μ4 t ht) cal_X4_readingsHoldIfSupposed mw128 (show isO 0 4 from rfl) rfl rfl (Nat.le_of_ble_eq_true rfl) ⟨Nat.le_of_ble_eq_true rfl, Nat.le_of_ble_eq_true rfl⟩ rfl (fun x6 μ5 => ?_)
      refine v_if_eq (tgt := 56) (n := 50) dX4_kinds_47 (by decide) rfl ?_ ?_
      · refine v_iinc (n := 59) (w := 1) (fun x7 => [(3, .int x7), (0, .ref (G.2.1 0)), (1, .int x1v), (2, .int x2v)]) dX4_kinds_56 3 rfl ci_1 (by decide) (fun _ => rfl) rfl (fun x7 => ?_)
        refine v_goto (tgt := 28) dX4_kinds_59 (by decide) ?_
        exact v_sub [1, 2, 3, 0] rfl (ih x2v x7 μ5)
      · refine v_iload_n (n := 51) dX4_kinds_50 rfl 2 rfl rfl ?_
        refine v_iconst (n := 52) (v := 1) dX4_kinds_51 ci_1 rfl ?_
        refine v_iload_n (n := 53) dX4_kinds_52 rfl 3 rfl rfl ?_
        refine v_ishl (n := 54) dX4_kinds_53 rfl ?_
        refine v_ior (n := 55) dX4_kinds_54 rfl ?_
        refine v_lt (fun x8 => ?_)
        refine v_istore_n (n := 56) [(2, .int x8), (0, .ref (G.2.1 0)), (1, .int x1v), (3, .int x3v)] dX4_kinds_55 rfl (by decide) rfl rfl ?_
        refine v_iinc (n := 59) (w := 1) (fun x9 => [(3, .int x9), (2, .int x8), (0, .ref (G.2.1 0)), (1, .int x1v)]) dX4_kinds_56 3 rfl ci_1 (by decide) (fun _ => rfl) rfl (fun x9 => ?_)
        refine v_goto (tgt := 28) dX4_kinds_59 (by decide) ?_
        exact v_sub [2, 3, 1, 0] rfl (ih x8 x9 μ5)
set_option maxRecDepth 100000 in
set_option maxHeartbeats 4000000 in
theorem v_X4_kinds (G : GG) (a1 : Int32) (μ : Mem) : V G J_X4_kinds 0 [(0, .ref (G.2.1 0)), (1, .int a1)] [] μ (f_X4_kinds a1 μ) kI := by
  rw [f_X4_kinds]
  refine v_aload_n (n := 1) dX4_kinds_0 rfl 0 rfl rfl ?_
  refine v_getR (n := 4) (i := 1) (q2 := 2) dX4_kinds_1 (show isO 0 4 from rfl) rfl fg_X4_20 rfl ?_
  refine v_iload_n (n := 5) dX4_kinds_4 rfl 1 rfl rfl ?_
  refine v_cVi (n := 8) (st := []) [.int a1] dX4_kinds_5 (fun t ht => M_X1_hasLeft G 2 (show isO 2 1 from rfl) a1 μ t ht) cal_X1_hasLeft mw89 (show isO 2 1 from rfl) rfl rfl (Nat.le_of_ble_eq_true rfl) ⟨Nat.le_of_ble_eq_true rfl, Nat.le_of_ble_eq_true rfl⟩ rfl (fun x2 μ1 => ?_)
  refine v_if_ne (tgt := 13) (n := 11) dX4_kinds_8 (by decide) rfl ?_ ?_
  · refine v_iconst (n := 12) (v := -1) dX4_kinds_11 ci_m1 rfl ?_
    exact v_iret dX4_kinds_12 rfl rfl
  · refine v_aload_n (n := 14) dX4_kinds_13 rfl 0 rfl rfl ?_
    refine v_getR (n := 17) (i := 2) (q2 := 8) dX4_kinds_14 (show isO 0 4 from rfl) rfl fg_X4_24 rfl ?_
    refine v_aload_n (n := 18) dX4_kinds_17 rfl 0 rfl rfl ?_
    refine v_getR (n := 21) (i := 1) (q2 := 2) dX4_kinds_18 (show isO 0 4 from rfl) rfl fg_X4_20 rfl ?_
    refine v_cVv (n := 24) (st := []) [.ref (G.2.1 2)] dX4_kinds_21 (fun t ht => M_X1_becomeLike G 8 (show isO 8 1 from rfl) 2 (show isO 2 1 from rfl) μ1 t ht) cal_X1_becomeLike mw42 (show isO 8 1 from rfl) rfl rfl (Nat.le_of_ble_eq_true rfl) ⟨Nat.le_of_ble_eq_true rfl, Nat.le_of_ble_eq_true rfl⟩ rfl (fun μ3 => ?_)
    refine v_iconst (n := 25) (v := 0) dX4_kinds_24 ci_0 rfl ?_
    refine v_istore_n (n := 26) [(2, .int (0 : Int32)), (0, .ref (G.2.1 0)), (1, .int a1)] dX4_kinds_25 rfl (by decide) rfl rfl ?_
    refine v_iconst (n := 27) (v := 0) dX4_kinds_26 ci_0 rfl ?_
    refine v_istore_n (n := 28) [(3, .int (0 : Int32)), (2, .int (0 : Int32)), (0, .ref (G.2.1 0)), (1, .int a1)] dX4_kinds_27 rfl (by decide) rfl rfl ?_
    refine v_sub [2, 3, 1, 0] rfl ?_
    refine v_x2 (px := 62) (lx := (fun x10 μ11 => [(2, .int x10)])) (mx := (fun x10 μ11 => μ11)) (fun kk hx => vlp_X4_kinds_28 G a1 kk hx FU (0 : Int32) (0 : Int32) μ3) (fun x10 μ11 => ?_)
    refine v_iload_n (n := 63) dX4_kinds_62 rfl 0 rfl rfl ?_
    exact v_iret dX4_kinds_63 rfl rfl
theorem M_X4_kinds (G : GG) (a1 : Int32) (μ : Mem) (t : Int32 × Mem) (ht : f_X4_kinds a1 μ = some t) : GM G J_X4_kinds yX4_kinds [.ref (G.2.1 0), .int a1] μ (oI t) :=
  gm_of (J := J_X4_kinds) (k := kI) rfl (by decide) (Nat.le_of_ble_eq_true rfl) (v_X4_kinds G a1 μ) ht rfl
set_option maxRecDepth 100000 in
set_option maxHeartbeats 4000000 in
theorem vlp_X4_letterings_28 (G : GG) (x1v : Int32) (kk : (Int32 × Mem) → Option Oc) (hx : ∀ (x2v : Int32) (μ : Mem), V G J_X4_letterings 63 [(2, .int x2v)] [] μ (kk (x2v, μ)) some) : ∀ (n : Nat) (x2v : Int32) (x3v : Int32) (μ : Mem), V G J_X4_letterings 28 [(0, .ref (G.2.1 0)), (1, .int x1v), (2, .int x2v), (3, .int x3v)] [] μ (lp_X4_letterings_28 x1v n x2v x3v μ) kk := by
  intro n
  induction n with
  | zero => intro _ _ _; exact v_none
  | succ n ih =>
    intro x2v x3v μ
    rw [lp_X4_letterings_28]
    refine v_iload_n (n := 29) dX4_letterings_28 rfl 3 rfl rfl ?_
    refine v_bipush (n := 31) (v := 9) dX4_letterings_29 cb_9 rfl ?_
    refine v_icmp_gt (tgt := 63) (n := 34) dX4_letterings_31 (by decide) rfl ?_ ?_
    · exact v_leaf (v_sub [2] rfl (hx x2v μ))
    · refine v_aload_n (n := 35) dX4_letterings_34 rfl 0 rfl rfl ?_
      refine v_getR (n := 38) (i := 2) (q2 := 8) dX4_letterings_35 (show isO 0 4 from rfl) rfl fg_X4_24 rfl ?_
      refine v_getR (n := 41) (i := 1) (q2 := 10) dX4_letterings_38 (show isO 8 1 from rfl) rfl fg_X4_101 rfl ?_
      refine v_iload_n (n := 42) dX4_letterings_41 rfl 1 rfl rfl ?_
      refine v_iload_n (n := 43) dX4_letterings_42 rfl 3 rfl rfl ?_
      refine v_iast (n := 44) dX4_letterings_43 (show isA 10 7 from rfl) rfl ?_
      refine v_lm (fun μ4 => ?_)
      refine v_aload_n (n := 45) dX4_letterings_44 rfl 0 rfl rfl ?_
      refine v_cVi (n := 48) (st := []) [] dX4_letterings_45 (fun t ht => M_X4_readingsHoldIfSupposed G μ4 t ht) cal_X4_readingsHoldIfSupposed mw128 (show isO 0 4 from rfl) rfl rfl (Nat.le_of_ble_eq_true rfl) ⟨Nat.le_of_ble_eq_true rfl, Nat.le_of_ble_eq_true rfl⟩ rfl (fun x6 μ5 => ?_)
      refine v_if_eq (tgt := 57) (n := 51) dX4_letterings_48 (by decide) rfl ?_ ?_
      · refine v_iinc (n := 60) (w := 1) (fun x7 => [(3, .int x7), (0, .ref (G.2.1 0)), (1, .int x1v), (2, .int x2v)]) dX4_letterings_57 3 rfl ci_1 (by decide) (fun _ => rfl) rfl (fun x7 => ?_)
        refine v_goto (tgt := 28) dX4_letterings_60 (by decide) ?_
        exact v_sub [1, 2, 3, 0] rfl (ih x2v x7 μ5)
      · refine v_iload_n (n := 52) dX4_letterings_51 rfl 2 rfl rfl ?_
        refine v_iconst (n := 53) (v := 1) dX4_letterings_52 ci_1 rfl ?_
        refine v_iload_n (n := 54) dX4_letterings_53 rfl 3 rfl rfl ?_
        refine v_ishl (n := 55) dX4_letterings_54 rfl ?_
        refine v_ior (n := 56) dX4_letterings_55 rfl ?_
        refine v_lt (fun x8 => ?_)
        refine v_istore_n (n := 57) [(2, .int x8), (0, .ref (G.2.1 0)), (1, .int x1v), (3, .int x3v)] dX4_letterings_56 rfl (by decide) rfl rfl ?_
        refine v_iinc (n := 60) (w := 1) (fun x9 => [(3, .int x9), (2, .int x8), (0, .ref (G.2.1 0)), (1, .int x1v)]) dX4_letterings_57 3 rfl ci_1 (by decide) (fun _ => rfl) rfl (fun x9 => ?_)
        refine v_goto (tgt := 28) dX4_letterings_60 (by decide) ?_
        exact v_sub [2, 3, 1, 0] rfl (ih x8 x9 μ5)
set_option maxRecDepth 100000 in
set_option maxHeartbeats 4000000 in
theorem v_X4_letterings (G : GG) (a1 : Int32) (μ : Mem) : V G J_X4_letterings 0 [(0, .ref (G.2.1 0)), (1, .int a1)] [] μ (f_X4_letterings a1 μ) kI := by
  rw [f_X4_letterings]
  refine v_aload_n (n := 1) dX4_letterings_0 rfl 0 rfl rfl ?_
  refine v_getR (n := 4) (i := 1) (q2 := 2) dX4_letterings_1 (show isO 0 4 from rfl) rfl fg_X4_20 rfl ?_
  refine v_iload_n (n := 5) dX4_letterings_4 rfl 1 rfl rfl ?_
  refine v_cVi (n := 8) (st := []) [.int a1] dX4_letterings_5 (fun t ht => M_X1_hasLeft G 2 (show isO 2 1 from rfl) a1 μ t ht) cal_X1_hasLeft mw89 (show isO 2 1 from rfl) rfl rfl (Nat.le_of_ble_eq_true rfl) ⟨Nat.le_of_ble_eq_true rfl, Nat.le_of_ble_eq_true rfl⟩ rfl (fun x2 μ1 => ?_)
  refine v_if_ne (tgt := 13) (n := 11) dX4_letterings_8 (by decide) rfl ?_ ?_
  · refine v_iconst (n := 12) (v := -1) dX4_letterings_11 ci_m1 rfl ?_
    exact v_iret dX4_letterings_12 rfl rfl
  · refine v_aload_n (n := 14) dX4_letterings_13 rfl 0 rfl rfl ?_
    refine v_getR (n := 17) (i := 2) (q2 := 8) dX4_letterings_14 (show isO 0 4 from rfl) rfl fg_X4_24 rfl ?_
    refine v_aload_n (n := 18) dX4_letterings_17 rfl 0 rfl rfl ?_
    refine v_getR (n := 21) (i := 1) (q2 := 2) dX4_letterings_18 (show isO 0 4 from rfl) rfl fg_X4_20 rfl ?_
    refine v_cVv (n := 24) (st := []) [.ref (G.2.1 2)] dX4_letterings_21 (fun t ht => M_X1_becomeLike G 8 (show isO 8 1 from rfl) 2 (show isO 2 1 from rfl) μ1 t ht) cal_X1_becomeLike mw42 (show isO 8 1 from rfl) rfl rfl (Nat.le_of_ble_eq_true rfl) ⟨Nat.le_of_ble_eq_true rfl, Nat.le_of_ble_eq_true rfl⟩ rfl (fun μ3 => ?_)
    refine v_iconst (n := 25) (v := 0) dX4_letterings_24 ci_0 rfl ?_
    refine v_istore_n (n := 26) [(2, .int (0 : Int32)), (0, .ref (G.2.1 0)), (1, .int a1)] dX4_letterings_25 rfl (by decide) rfl rfl ?_
    refine v_iconst (n := 27) (v := 1) dX4_letterings_26 ci_1 rfl ?_
    refine v_istore_n (n := 28) [(3, .int (1 : Int32)), (2, .int (0 : Int32)), (0, .ref (G.2.1 0)), (1, .int a1)] dX4_letterings_27 rfl (by decide) rfl rfl ?_
    refine v_sub [2, 3, 1, 0] rfl ?_
    refine v_x2 (px := 63) (lx := (fun x10 μ11 => [(2, .int x10)])) (mx := (fun x10 μ11 => μ11)) (fun kk hx => vlp_X4_letterings_28 G a1 kk hx FU (0 : Int32) (1 : Int32) μ3) (fun x10 μ11 => ?_)
    refine v_iload_n (n := 64) dX4_letterings_63 rfl 0 rfl rfl ?_
    exact v_iret dX4_letterings_64 rfl rfl
theorem M_X4_letterings (G : GG) (a1 : Int32) (μ : Mem) (t : Int32 × Mem) (ht : f_X4_letterings a1 μ = some t) : GM G J_X4_letterings yX4_letterings [.ref (G.2.1 0), .int a1] μ (oI t) :=
  gm_of (J := J_X4_letterings) (k := kI) rfl (by decide) (Nat.le_of_ble_eq_true rfl) (v_X4_letterings G a1 μ) ht rfl
set_option maxRecDepth 100000 in
set_option maxHeartbeats 4000000 in
theorem vlp_X0_howManyOf_4 (G : GG) (r0v : Nat) (hr0v : isO r0v 0) (x1v : Int32) (kk : (Int32 × Mem) → Option Oc) (hx : ∀ (x2v : Int32) (μ : Mem), V G J_X0_howManyOf 31 [(2, .int x2v)] [] μ (kk (x2v, μ)) some) : ∀ (n : Nat) (x2v : Int32) (x3v : Int32) (μ : Mem), V G J_X0_howManyOf 4 [(0, .ref (G.2.1 r0v)), (1, .int x1v), (2, .int x2v), (3, .int x3v)] [] μ (lp_X0_howManyOf_4 r0v x1v n x2v x3v μ) kk := by
  intro n
  induction n with
  | zero => intro _ _ _; exact v_none
  | succ n ih =>
    intro x2v x3v μ
    rw [lp_X0_howManyOf_4]
    refine v_iload_n (n := 5) dX0_howManyOf_4 rfl 3 rfl rfl ?_
    refine v_aload_n (n := 6) dX0_howManyOf_5 rfl 0 rfl rfl ?_
    refine v_getI (n := 9) (i := 10) dX0_howManyOf_6 hr0v rfl fg_X0_103 rfl ?_
    refine v_icmp_ge (tgt := 31) (n := 12) dX0_howManyOf_9 (by decide) rfl ?_ ?_
    · exact v_leaf (v_sub [2] rfl (hx x2v μ))
    · refine v_aload_n (n := 13) dX0_howManyOf_12 rfl 0 rfl rfl ?_
      refine v_getR (n := 16) (i := 5) (q2 := (r0v + 6)) dX0_howManyOf_13 hr0v rfl fg_X0_27 rfl ?_
      refine v_iload_n (n := 17) dX0_howManyOf_16 rfl 3 rfl rfl ?_
      refine v_iald (n := 18) dX0_howManyOf_17 (ar0_5 hr0v) rfl ?_
      refine v_iload_n (n := 19) dX0_howManyOf_18 rfl 1 rfl rfl ?_
      refine v_icmp_ne (tgt := 25) (n := 22) dX0_howManyOf_19 (by decide) rfl ?_ ?_
      · refine v_iinc (n := 25) (w := 1) (fun x2 => [(2, .int x2), (0, .ref (G.2.1 r0v)), (1, .int x1v), (3, .int x3v)]) dX0_howManyOf_22 2 rfl ci_1 (by decide) (fun _ => rfl) rfl (fun x2 => ?_)
        refine v_iinc (n := 28) (w := 1) (fun x3 => [(3, .int x3), (2, .int x2), (0, .ref (G.2.1 r0v)), (1, .int x1v)]) dX0_howManyOf_25 3 rfl ci_1 (by decide) (fun _ => rfl) rfl (fun x3 => ?_)
        refine v_goto (tgt := 4) dX0_howManyOf_28 (by decide) ?_
        exact v_sub [2, 3, 1, 0] rfl (ih x2 x3 μ)
      · refine v_iinc (n := 28) (w := 1) (fun x1 => [(3, .int x1), (0, .ref (G.2.1 r0v)), (1, .int x1v), (2, .int x2v)]) dX0_howManyOf_25 3 rfl ci_1 (by decide) (fun _ => rfl) rfl (fun x1 => ?_)
        refine v_goto (tgt := 4) dX0_howManyOf_28 (by decide) ?_
        exact v_sub [1, 2, 3, 0] rfl (ih x2v x1 μ)
set_option maxRecDepth 100000 in
set_option maxHeartbeats 4000000 in
theorem v_X0_howManyOf (G : GG) (q0 : Nat) (hq0 : isO q0 0) (a1 : Int32) (μ : Mem) : V G J_X0_howManyOf 0 [(0, .ref (G.2.1 q0)), (1, .int a1)] [] μ (f_X0_howManyOf q0 a1 μ) kI := by
  rw [f_X0_howManyOf]
  refine v_iconst (n := 1) (v := 0) dX0_howManyOf_0 ci_0 rfl ?_
  refine v_istore_n (n := 2) [(2, .int (0 : Int32)), (0, .ref (G.2.1 q0)), (1, .int a1)] dX0_howManyOf_1 rfl (by decide) rfl rfl ?_
  refine v_iconst (n := 3) (v := 0) dX0_howManyOf_2 ci_0 rfl ?_
  refine v_istore_n (n := 4) [(3, .int (0 : Int32)), (2, .int (0 : Int32)), (0, .ref (G.2.1 q0)), (1, .int a1)] dX0_howManyOf_3 rfl (by decide) rfl rfl ?_
  refine v_sub [2, 3, 1, 0] rfl ?_
  refine v_x2 (px := 31) (lx := (fun x4 μ5 => [(2, .int x4)])) (mx := (fun x4 μ5 => μ5)) (fun kk hx => vlp_X0_howManyOf_4 G q0 hq0 a1 kk hx FU (0 : Int32) (0 : Int32) μ) (fun x4 μ5 => ?_)
  refine v_iload_n (n := 32) dX0_howManyOf_31 rfl 0 rfl rfl ?_
  exact v_iret dX0_howManyOf_32 rfl rfl
theorem M_X0_howManyOf (G : GG) (q0 : Nat) (hq0 : isO q0 0) (a1 : Int32) (μ : Mem) (t : Int32 × Mem) (ht : f_X0_howManyOf q0 a1 μ = some t) : GM G J_X0_howManyOf yX0_howManyOf [.ref (G.2.1 q0), .int a1] μ (oI t) :=
  gm_of (J := J_X0_howManyOf) (k := kI) rfl (by decide) (Nat.le_of_ble_eq_true rfl) (v_X0_howManyOf G q0 hq0 a1 μ) ht rfl
set_option maxRecDepth 100000 in
set_option maxHeartbeats 4000000 in
theorem vlp_X4_commonDivisor_2 (G : GG) (x0v : Int32) (x1v : Int32) (kk : (Int32 × Mem) → Option Oc) (hx : ∀ (x2v : Int32) (μ : Mem), V G J_X4_commonDivisor 25 [(2, .int x2v)] [] μ (kk (x2v, μ)) some) : ∀ (n : Nat) (x2v : Int32) (μ : Mem), V G J_X4_commonDivisor 2 [(0, .int x0v), (1, .int x1v), (2, .int x2v)] [] μ (lp_X4_commonDivisor_2 x0v x1v n x2v μ) kk := by
  intro n
  induction n with
  | zero => intro _ _; exact v_none
  | succ n ih =>
    intro x2v μ
    rw [lp_X4_commonDivisor_2]
    refine v_iload_n (n := 3) dX4_commonDivisor_2 rfl 2 rfl rfl ?_
    refine v_iconst (n := 4) (v := 1) dX4_commonDivisor_3 ci_1 rfl ?_
    refine v_icmp_le (tgt := 25) (n := 7) dX4_commonDivisor_4 (by decide) rfl ?_ ?_
    · exact v_leaf (v_sub [2] rfl (hx x2v μ))
    · refine v_iload_n (n := 8) dX4_commonDivisor_7 rfl 0 rfl rfl ?_
      refine v_iload_n (n := 9) dX4_commonDivisor_8 rfl 2 rfl rfl ?_
      refine v_irem (n := 10) dX4_commonDivisor_9 rfl ?_
      refine v_if_ne (tgt := 19) (n := 13) dX4_commonDivisor_10 (by decide) rfl ?_ ?_
      · refine v_iload_n (n := 14) dX4_commonDivisor_13 rfl 1 rfl rfl ?_
        refine v_iload_n (n := 15) dX4_commonDivisor_14 rfl 2 rfl rfl ?_
        refine v_irem (n := 16) dX4_commonDivisor_15 rfl ?_
        refine v_if_eq (tgt := 25) (n := 19) dX4_commonDivisor_16 (by decide) rfl ?_ ?_
        · exact v_leaf (v_sub [2] rfl (hx x2v μ))
        · refine v_iinc (n := 22) (w := -1) (fun x2 => [(2, .int x2), (0, .int x0v), (1, .int x1v)]) dX4_commonDivisor_19 2 rfl ci_m1 (by decide) (fun _ => rfl) rfl (fun x2 => ?_)
          refine v_goto (tgt := 2) dX4_commonDivisor_22 (by decide) ?_
          exact v_sub [1, 2, 0] rfl (ih x2 μ)
      · refine v_iinc (n := 22) (w := -1) (fun x1 => [(2, .int x1), (0, .int x0v), (1, .int x1v)]) dX4_commonDivisor_19 2 rfl ci_m1 (by decide) (fun _ => rfl) rfl (fun x1 => ?_)
        refine v_goto (tgt := 2) dX4_commonDivisor_22 (by decide) ?_
        exact v_sub [1, 2, 0] rfl (ih x1 μ)
set_option maxRecDepth 100000 in
set_option maxHeartbeats 4000000 in
theorem v_X4_commonDivisor (G : GG) (a0 : Int32) (a1 : Int32) (μ : Mem) : V G J_X4_commonDivisor 0 [(0, .int a0), (1, .int a1)] [] μ (f_X4_commonDivisor a0 a1 μ) kI := by
  rw [f_X4_commonDivisor]
  refine v_iload_n (n := 1) dX4_commonDivisor_0 rfl 1 rfl rfl ?_
  refine v_istore_n (n := 2) [(2, .int a1), (0, .int a0), (1, .int a1)] dX4_commonDivisor_1 rfl (by decide) rfl rfl ?_
  refine v_sub [1, 2, 0] rfl ?_
  refine v_x2 (px := 25) (lx := (fun x3 μ4 => [(2, .int x3)])) (mx := (fun x3 μ4 => μ4)) (fun kk hx => vlp_X4_commonDivisor_2 G a0 a1 kk hx FU a1 μ) (fun x3 μ4 => ?_)
  refine v_iload_n (n := 26) dX4_commonDivisor_25 rfl 0 rfl rfl ?_
  exact v_iret dX4_commonDivisor_26 rfl rfl
theorem M_X4_commonDivisor (G : GG) (a0 : Int32) (a1 : Int32) (μ : Mem) (t : Int32 × Mem) (ht : f_X4_commonDivisor a0 a1 μ = some t) : GM G J_X4_commonDivisor yX4_commonDivisor [.int a0, .int a1] μ (oI t) :=
  gm_of (J := J_X4_commonDivisor) (k := kI) rfl (by decide) (Nat.le_of_ble_eq_true rfl) (v_X4_commonDivisor G a0 a1 μ) ht rfl
set_option maxRecDepth 100000 in
set_option maxHeartbeats 4000000 in
theorem v_X4_odds (G : GG) (a1 : Int32) (a2 : Int32) (μ : Mem) : V G J_X4_odds 0 [(0, .ref (G.2.1 0)), (1, .int a1), (2, .int a2)] [] μ (f_X4_odds a1 a2 μ) kL := by
  rw [f_X4_odds]
  refine v_iload_n (n := 1) dX4_odds_0 rfl 1 rfl rfl ?_
  refine v_cSi (n := 4) (st := []) [.int a1] dX4_odds_1 (fun t ht => M_X4_isSort G a1 μ t ht) cal_X4_isSort mw112 rfl rfl (Nat.le_of_ble_eq_true rfl) ⟨Nat.le_of_ble_eq_true rfl, Nat.le_of_ble_eq_true rfl⟩ rfl (fun x2 μ1 => ?_)
  refine v_if_eq (tgt := 16) (n := 7) dX4_odds_4 (by decide) rfl ?_ ?_
  · refine v_ldc2 (n := 19) (v := -9223372036854775808) dX4_odds_16 mw129 rfl ?_
    exact v_lret dX4_odds_19 rfl rfl
  · refine v_iload_n (n := 8) dX4_odds_7 rfl 2 rfl rfl ?_
    refine v_if_lt (tgt := 16) (n := 11) dX4_odds_8 (by decide) rfl ?_ ?_
    · refine v_ldc2 (n := 19) (v := -9223372036854775808) dX4_odds_16 mw129 rfl ?_
      exact v_lret dX4_odds_19 rfl rfl
    · refine v_iload_n (n := 12) dX4_odds_11 rfl 2 rfl rfl ?_
      refine v_iconst (n := 13) (v := 1) dX4_odds_12 ci_1 rfl ?_
      refine v_icmp_le (tgt := 20) (n := 16) dX4_odds_13 (by decide) rfl ?_ ?_
      · refine v_aload_n (n := 21) dX4_odds_20 rfl 0 rfl rfl ?_
        refine v_cVa (n := 24) (st := []) [] dX4_odds_21 (fun t ht => M_X4_alignmentOfNow G μ1 t ht) cal_X4_alignmentOfNow mw94 (show isO 0 4 from rfl) rfl rfl (Nat.le_of_ble_eq_true rfl) ⟨Nat.le_of_ble_eq_true rfl, Nat.le_of_ble_eq_true rfl⟩ rfl (fun μ3 => ?_)
        refine v_astore_n (n := 25) [(3, .ref (G.2.1 14)), (0, .ref (G.2.1 0)), (1, .int a1), (2, .int a2)] dX4_odds_24 rfl (by decide) rfl rfl ?_
        refine v_aload_n (n := 26) dX4_odds_25 rfl 0 rfl rfl ?_
        refine v_getI (n := 29) (i := 10) dX4_odds_26 (show isO 14 0 from rfl) rfl fg_X4_153 rfl ?_
        refine v_lt (fun x4 => ?_)
        refine v_istore (n := 31) [(4, .int x4), (3, .ref (G.2.1 14)), (0, .ref (G.2.1 0)), (1, .int a1), (2, .int a2)] dX4_odds_29 (by decide) rfl rfl ?_
        refine v_iload (n := 33) dX4_odds_31 0 rfl rfl ?_
        refine v_iconst (n := 34) (v := 1) dX4_odds_33 ci_1 rfl ?_
        refine v_icmp_ge (tgt := 41) (n := 37) dX4_odds_34 (by decide) rfl ?_ ?_
        · refine v_aload_n (n := 42) dX4_odds_41 rfl 1 rfl rfl ?_
          refine v_iload_n (n := 43) dX4_odds_42 rfl 3 rfl rfl ?_
          refine v_cVi (n := 46) (st := []) [.int a1] dX4_odds_43 (fun t ht => M_X0_howManyOf G 14 (show isO 14 0 from rfl) a1 μ3 t ht) cal_X0_howManyOf mw130 (show isO 14 0 from rfl) rfl rfl (Nat.le_of_ble_eq_true rfl) ⟨Nat.le_of_ble_eq_true rfl, Nat.le_of_ble_eq_true rfl⟩ rfl (fun x6 μ5 => ?_)
          refine v_istore (n := 48) [(5, .int x6), (4, .int x4), (3, .ref (G.2.1 14)), (0, .ref (G.2.1 0)), (1, .int a1), (2, .int a2)] dX4_odds_46 (by decide) rfl rfl ?_
          refine v_iload (n := 50) dX4_odds_48 0 rfl rfl ?_
          refine v_iload (n := 52) dX4_odds_50 1 rfl rfl ?_
          refine v_cSi (n := 55) (st := []) [.int x6, .int x4] dX4_odds_52 (fun t ht => M_X4_commonDivisor G x6 x4 μ5 t ht) cal_X4_commonDivisor mw131 rfl rfl (Nat.le_of_ble_eq_true rfl) ⟨Nat.le_of_ble_eq_true rfl, Nat.le_of_ble_eq_true rfl⟩ rfl (fun x8 μ7 => ?_)
          refine v_istore (n := 57) [(6, .int x8), (5, .int x6), (4, .int x4), (3, .ref (G.2.1 14)), (0, .ref (G.2.1 0)), (1, .int a1), (2, .int a2)] dX4_odds_55 (by decide) rfl rfl ?_
          refine v_iload_n (n := 58) dX4_odds_57 rfl 6 rfl rfl ?_
          refine v_if_ne (tgt := 70) (n := 61) dX4_odds_58 (by decide) rfl ?_ ?_
          · refine v_iload (n := 63) dX4_odds_61 1 rfl rfl ?_
            refine v_iload (n := 65) dX4_odds_63 0 rfl rfl ?_
            refine v_idiv (n := 66) dX4_odds_65 rfl ?_
            refine v_i2l (n := 67) dX4_odds_66 rfl ?_
            refine v_goto (tgt := 76) dX4_odds_67 (by decide) ?_
            exact v_lret dX4_odds_76 rfl rfl
          · refine v_iload (n := 72) dX4_odds_70 2 rfl rfl ?_
            refine v_iload (n := 74) dX4_odds_72 0 rfl rfl ?_
            refine v_idiv (n := 75) dX4_odds_74 rfl ?_
            refine v_i2l (n := 76) dX4_odds_75 rfl ?_
            exact v_lret dX4_odds_76 rfl rfl
        · refine v_ldc2 (n := 40) (v := -9223372036854775808) dX4_odds_37 mw129 rfl ?_
          exact v_lret dX4_odds_40 rfl rfl
      · refine v_ldc2 (n := 19) (v := -9223372036854775808) dX4_odds_16 mw129 rfl ?_
        exact v_lret dX4_odds_19 rfl rfl
theorem M_X4_odds (G : GG) (a1 : Int32) (a2 : Int32) (μ : Mem) (t : Int64 × Mem) (ht : f_X4_odds a1 a2 μ = some t) : GM G J_X4_odds yX4_odds [.ref (G.2.1 0), .int a1, .int a2] μ (oL t) :=
  gm_of (J := J_X4_odds) (k := kL) rfl (by decide) (Nat.le_of_ble_eq_true rfl) (v_X4_odds G a1 a2 μ) ht rfl
set_option maxRecDepth 100000 in
set_option maxHeartbeats 4000000 in
theorem vlp_J7_fill_53178_5 (G : GG) (r0v : Nat) (hr0v : isA r0v 60) (x1v : Int32) (x3v : Int32) (kk : (Mem) → Option Oc) (hx : ∀ (μ : Mem), V G J_J7_fill_53178 20 [] [] μ (kk μ) some) : ∀ (n : Nat) (x2v : Int32) (μ : Mem), V G J_J7_fill_53178 5 [(0, .ref (G.2.1 r0v)), (1, .int x1v), (2, .int x2v), (3, .int x3v)] [] μ (lp_J7_fill_53178_5 r0v x1v x3v n x2v μ) kk := by
  intro n
  induction n with
  | zero => intro _ _; exact v_none
  | succ n ih =>
    intro x2v μ
    rw [lp_J7_fill_53178_5]
    refine v_iload_n (n := 6) dJ7_fill_53178_5 rfl 2 rfl rfl ?_
    refine v_iload_n (n := 7) dJ7_fill_53178_6 rfl 3 rfl rfl ?_
    refine v_icmp_ge (tgt := 20) (n := 10) dJ7_fill_53178_7 (by decide) rfl ?_ ?_
    · exact v_leaf (v_sub [] rfl (hx  μ))
    · refine v_aload_n (n := 11) dJ7_fill_53178_10 rfl 0 rfl rfl ?_
      refine v_iload_n (n := 12) dJ7_fill_53178_11 rfl 2 rfl rfl ?_
      refine v_iload_n (n := 13) dJ7_fill_53178_12 rfl 1 rfl rfl ?_
      refine v_iast (n := 14) dJ7_fill_53178_13 hr0v rfl ?_
      refine v_lm (fun μ1 => ?_)
      refine v_iinc (n := 17) (w := 1) (fun x2 => [(2, .int x2), (0, .ref (G.2.1 r0v)), (1, .int x1v), (3, .int x3v)]) dJ7_fill_53178_14 2 rfl ci_1 (by decide) (fun _ => rfl) rfl (fun x2 => ?_)
      refine v_goto (tgt := 5) dJ7_fill_53178_17 (by decide) ?_
      exact v_sub [1, 2, 0, 3] rfl (ih x2 μ1)
set_option maxRecDepth 100000 in
set_option maxHeartbeats 4000000 in
theorem v_J7_fill_53178 (G : GG) (q0 : Nat) (hq0 : isA q0 60) (a1 : Int32) (μ : Mem) : V G J_J7_fill_53178 0 [(0, .ref (G.2.1 q0)), (1, .int a1)] [] μ (f_J7_fill_53178 q0 a1 μ) kV := by
  rw [f_J7_fill_53178]
  refine v_iconst (n := 1) (v := 0) dJ7_fill_53178_0 ci_0 rfl ?_
  refine v_istore_n (n := 2) [(2, .int (0 : Int32)), (0, .ref (G.2.1 q0)), (1, .int a1)] dJ7_fill_53178_1 rfl (by decide) rfl rfl ?_
  refine v_aload_n (n := 3) dJ7_fill_53178_2 rfl 1 rfl rfl ?_
  refine v_alen (n := 4) (v := 60) dJ7_fill_53178_3 hq0 (by decide) rfl ?_
  refine v_istore_n (n := 5) [(3, .int (60 : Int32)), (2, .int (0 : Int32)), (0, .ref (G.2.1 q0)), (1, .int a1)] dJ7_fill_53178_4 rfl (by decide) rfl rfl ?_
  refine v_sub [2, 3, 1, 0] rfl ?_
  refine v_x1 (px := 20) (lx := (fun μ3 => [])) (mx := (fun μ3 => μ3)) (fun kk hx => vlp_J7_fill_53178_5 G q0 hq0 a1 (60 : Int32) kk hx FU (0 : Int32) μ) (fun μ3 => ?_)
  exact v_vret dJ7_fill_53178_20 rfl rfl
theorem M_J7_fill_53178 (G : GG) (q0 : Nat) (hq0 : isA q0 60) (a1 : Int32) (μ : Mem) (t : Mem) (ht : f_J7_fill_53178 q0 a1 μ = some t) : GM G J_J7_fill_53178 yJ7_fill_53178 [.ref (G.2.1 q0), .int a1] μ (oV t) :=
  gm_of (J := J_J7_fill_53178) (k := kV) rfl (by decide) (Nat.le_of_ble_eq_true rfl) (v_J7_fill_53178 G q0 hq0 a1 μ) ht rfl
set_option maxRecDepth 100000 in
set_option maxHeartbeats 4000000 in
theorem v_X2_begin (G : GG) (q0 : Nat) (hq0 : isO q0 2) (a1 : Int32) (a2 : Int32) (μ : Mem) : V G J_X2_begin 0 [(0, .ref (G.2.1 q0)), (1, .int a1), (2, .int a2)] [] μ (f_X2_begin q0 a1 a2 μ) kV := by
  rw [f_X2_begin]
  refine v_aload_n (n := 1) dX2_begin_0 rfl 0 rfl rfl ?_
  refine v_iconst (n := 2) (v := 1) dX2_begin_1 ci_1 rfl ?_
  refine v_put (n := 5) (i := 1) dX2_begin_2 hq0 rfl fp_X2_15 (by decide) (by decide) rfl ?_
  refine v_lm (fun μ1 => ?_)
  refine v_aload_n (n := 6) dX2_begin_5 rfl 0 rfl rfl ?_
  refine v_iload_n (n := 7) dX2_begin_6 rfl 1 rfl rfl ?_
  refine v_put (n := 10) (i := 2) dX2_begin_7 hq0 rfl fp_X2_19 rfl rfl rfl ?_
  refine v_lm (fun μ2 => ?_)
  refine v_aload_n (n := 11) dX2_begin_10 rfl 0 rfl rfl ?_
  refine v_iload_n (n := 12) dX2_begin_11 rfl 2 rfl rfl ?_
  refine v_put (n := 15) (i := 3) dX2_begin_12 hq0 rfl fp_X2_23 rfl rfl rfl ?_
  refine v_lm (fun μ3 => ?_)
  refine v_aload_n (n := 16) dX2_begin_15 rfl 0 rfl rfl ?_
  refine v_getR (n := 19) (i := 0) (q2 := (q0 + 1)) dX2_begin_16 hq0 rfl fg_X2_9 rfl ?_
  refine v_iconst (n := 20) (v := 0) dX2_begin_19 ci_0 rfl ?_
  refine v_cSv (n := 23) (st := []) [.ref (G.2.1 (q0 + 1)), .int (0 : Int32)] dX2_begin_20 (fun t ht => M_J7_fill_53178 G (q0 + 1) (ar2_0 hq0) (0 : Int32) μ3 t ht) cal_J7_fill_53178 mw133 rfl rfl (Nat.le_of_ble_eq_true rfl) ⟨Nat.le_of_ble_eq_true rfl, Nat.le_of_ble_eq_true rfl⟩ rfl (fun μ4 => ?_)
  exact v_vret dX2_begin_23 rfl rfl
theorem M_X2_begin (G : GG) (q0 : Nat) (hq0 : isO q0 2) (a1 : Int32) (a2 : Int32) (μ : Mem) (t : Mem) (ht : f_X2_begin q0 a1 a2 μ = some t) : GM G J_X2_begin yX2_begin [.ref (G.2.1 q0), .int a1, .int a2] μ (oV t) :=
  gm_of (J := J_X2_begin) (k := kV) rfl (by decide) (Nat.le_of_ble_eq_true rfl) (v_X2_begin G q0 hq0 a1 a2 μ) ht rfl
set_option maxRecDepth 100000 in
set_option maxHeartbeats 4000000 in
theorem v_X4_sheet (G : GG) (a1 : Int32) (a2 : Int32) (a3 : Int32) (μ : Mem) : V G J_X4_sheet 0 [(0, .ref (G.2.1 0)), (1, .int a1), (2, .int a2), (3, .int a3)] [] μ (f_X4_sheet a1 a2 a3 μ) kI := by
  rw [f_X4_sheet]
  refine v_aload_n (n := 1) dX4_sheet_0 rfl 0 rfl rfl ?_
  refine v_iconst (n := 2) (v := 0) dX4_sheet_1 ci_0 rfl ?_
  refine v_put (n := 5) (i := 11) dX4_sheet_2 (show isO 0 4 from rfl) rfl fp_X4_52 rfl rfl rfl ?_
  refine v_lm (fun μ1 => ?_)
  refine v_iload_n (n := 6) dX4_sheet_5 rfl 1 rfl rfl ?_
  refine v_cSi (n := 9) (st := []) [.int a1] dX4_sheet_6 (fun t ht => M_X4_isSheet G a1 μ1 t ht) cal_X4_isSheet mw34 rfl rfl (Nat.le_of_ble_eq_true rfl) ⟨Nat.le_of_ble_eq_true rfl, Nat.le_of_ble_eq_true rfl⟩ rfl (fun x3 μ2 => ?_)
  refine v_if_ne (tgt := 14) (n := 12) dX4_sheet_9 (by decide) rfl ?_ ?_
  · refine v_iconst (n := 13) (v := -1) dX4_sheet_12 ci_m1 rfl ?_
    exact v_iret dX4_sheet_13 rfl rfl
  · refine v_iload_n (n := 15) dX4_sheet_14 rfl 2 rfl rfl ?_
    refine v_cSi (n := 18) (st := []) [.int a2] dX4_sheet_15 (fun t ht => M_X4_isLane G a2 μ2 t ht) cal_X4_isLane mw35 rfl rfl (Nat.le_of_ble_eq_true rfl) ⟨Nat.le_of_ble_eq_true rfl, Nat.le_of_ble_eq_true rfl⟩ rfl (fun x5 μ4 => ?_)
    refine v_if_eq (tgt := 27) (n := 21) dX4_sheet_18 (by decide) rfl ?_ ?_
    · refine v_bipush (n := 29) (v := -2) dX4_sheet_27 cb_m2 rfl ?_
      exact v_iret dX4_sheet_29 rfl rfl
    · refine v_iload_n (n := 22) dX4_sheet_21 rfl 3 rfl rfl ?_
      refine v_bipush (n := 24) (v := 60) dX4_sheet_22 cb_60 rfl ?_
      refine v_icmp_le (tgt := 30) (n := 27) dX4_sheet_24 (by decide) rfl ?_ ?_
      · refine v_iload_n (n := 31) dX4_sheet_30 rfl 3 rfl rfl ?_
        refine v_if_ge (tgt := 40) (n := 34) dX4_sheet_31 (by decide) rfl ?_ ?_
        · refine v_aload_n (n := 41) dX4_sheet_40 rfl 0 rfl rfl ?_
          refine v_getR (n := 44) (i := 0) (q2 := 1) dX4_sheet_41 (show isO 0 4 from rfl) rfl fg_X4_13 rfl ?_
          refine v_iload_n (n := 45) dX4_sheet_44 rfl 1 rfl rfl ?_
          refine v_aald (n := 46) dX4_sheet_45 rfl (fun q6 hq6 => ?_)
          refine v_iload_n (n := 47) dX4_sheet_46 rfl 2 rfl rfl ?_
          refine v_iload_n (n := 48) dX4_sheet_47 rfl 3 rfl rfl ?_
          refine v_cVv (n := 51) (st := []) [.int a2, .int a3] dX4_sheet_48 (fun t ht => M_X2_begin G q6 hq6 a2 a3 μ4 t ht) cal_X2_begin mw134 hq6 rfl rfl (Nat.le_of_ble_eq_true rfl) ⟨Nat.le_of_ble_eq_true rfl, Nat.le_of_ble_eq_true rfl⟩ rfl (fun μ7 => ?_)
          refine v_iconst (n := 52) (v := 1) dX4_sheet_51 ci_1 rfl ?_
          exact v_iret dX4_sheet_52 rfl rfl
        · refine v_aload_n (n := 35) dX4_sheet_34 rfl 0 rfl rfl ?_
          refine v_iconst (n := 36) (v := 4) dX4_sheet_35 ci_4 rfl ?_
          refine v_cVi (n := 39) (st := []) [.int (4 : Int32)] dX4_sheet_36 (fun t ht => M_X4_failed G (4 : Int32) μ4 t ht) cal_X4_failed mw47 (show isO 0 4 from rfl) rfl rfl (Nat.le_of_ble_eq_true rfl) ⟨Nat.le_of_ble_eq_true rfl, Nat.le_of_ble_eq_true rfl⟩ rfl (fun x9 μ8 => ?_)
          exact v_iret dX4_sheet_39 rfl rfl
      · refine v_bipush (n := 29) (v := -2) dX4_sheet_27 cb_m2 rfl ?_
        exact v_iret dX4_sheet_29 rfl rfl
theorem M_X4_sheet (G : GG) (a1 : Int32) (a2 : Int32) (a3 : Int32) (μ : Mem) (t : Int32 × Mem) (ht : f_X4_sheet a1 a2 a3 μ = some t) : GM G J_X4_sheet yX4_sheet [.ref (G.2.1 0), .int a1, .int a2, .int a3] μ (oI t) :=
  gm_of (J := J_X4_sheet) (k := kI) rfl (by decide) (Nat.le_of_ble_eq_true rfl) (v_X4_sheet G a1 a2 a3 μ) ht rfl
set_option maxRecDepth 100000 in
set_option maxHeartbeats 4000000 in
theorem v_X4_lose (G : GG) (a1 : Int32) (μ : Mem) : V G J_X4_lose 0 [(0, .ref (G.2.1 0)), (1, .int a1)] [] μ (f_X4_lose a1 μ) kI := by
  rw [f_X4_lose]
  refine v_iload_n (n := 1) dX4_lose_0 rfl 1 rfl rfl ?_
  refine v_cSi (n := 4) (st := []) [.int a1] dX4_lose_1 (fun t ht => M_X4_isSheet G a1 μ t ht) cal_X4_isSheet mw34 rfl rfl (Nat.le_of_ble_eq_true rfl) ⟨Nat.le_of_ble_eq_true rfl, Nat.le_of_ble_eq_true rfl⟩ rfl (fun x2 μ1 => ?_)
  refine v_if_ne (tgt := 9) (n := 7) dX4_lose_4 (by decide) rfl ?_ ?_
  · refine v_iconst (n := 8) (v := -1) dX4_lose_7 ci_m1 rfl ?_
    exact v_iret dX4_lose_8 rfl rfl
  · refine v_aload_n (n := 10) dX4_lose_9 rfl 0 rfl rfl ?_
    refine v_getR (n := 13) (i := 0) (q2 := 1) dX4_lose_10 (show isO 0 4 from rfl) rfl fg_X4_13 rfl ?_
    refine v_iload_n (n := 14) dX4_lose_13 rfl 1 rfl rfl ?_
    refine v_aald (n := 15) dX4_lose_14 rfl (fun q3 hq3 => ?_)
    refine v_getI (n := 18) (i := 1) dX4_lose_15 hq3 rfl fg_X4_214 rfl ?_
    refine v_lt (fun x4 => ?_)
    refine v_istore_n (n := 19) [(2, .int x4), (0, .ref (G.2.1 0)), (1, .int a1)] dX4_lose_18 rfl (by decide) rfl rfl ?_
    refine v_aload_n (n := 20) dX4_lose_19 rfl 1 rfl rfl ?_
    refine v_getR (n := 23) (i := 0) (q2 := 1) dX4_lose_20 (show isO 0 4 from rfl) rfl fg_X4_13 rfl ?_
    refine v_iload_n (n := 24) dX4_lose_23 rfl 2 rfl rfl ?_
    refine v_aald (n := 25) dX4_lose_24 rfl (fun q5 hq5 => ?_)
    refine v_iconst (n := 26) (v := 0) dX4_lose_25 ci_0 rfl ?_
    refine v_put (n := 29) (i := 1) dX4_lose_26 hq5 rfl fp_X4_214 (by decide) (by decide) rfl ?_
    refine v_lm (fun μ6 => ?_)
    refine v_iload_n (n := 30) dX4_lose_29 rfl 0 rfl rfl ?_
    refine v_if_eq (tgt := 37) (n := 33) dX4_lose_30 (by decide) rfl ?_ ?_
    · refine v_iconst (n := 38) (v := 0) dX4_lose_37 ci_0 rfl ?_
      exact v_iret dX4_lose_38 rfl rfl
    · refine v_iconst (n := 34) (v := 1) dX4_lose_33 ci_1 rfl ?_
      refine v_goto (tgt := 38) dX4_lose_34 (by decide) ?_
      exact v_iret dX4_lose_38 rfl rfl
theorem M_X4_lose (G : GG) (a1 : Int32) (μ : Mem) (t : Int32 × Mem) (ht : f_X4_lose a1 μ = some t) : GM G J_X4_lose yX4_lose [.ref (G.2.1 0), .int a1] μ (oI t) :=
  gm_of (J := J_X4_lose) (k := kI) rfl (by decide) (Nat.le_of_ble_eq_true rfl) (v_X4_lose G a1 μ) ht rfl
set_option maxRecDepth 100000 in
set_option maxHeartbeats 4000000 in
theorem v_X2_cut (G : GG) (q0 : Nat) (hq0 : isO q0 2) (a1 : Int32) (μ : Mem) : V G J_X2_cut 0 [(0, .ref (G.2.1 q0)), (1, .int a1)] [] μ (f_X2_cut q0 a1 μ) kI := by
  rw [f_X2_cut]
  refine v_aload_n (n := 1) dX2_cut_0 rfl 0 rfl rfl ?_
  refine v_getI (n := 4) (i := 2) dX2_cut_1 hq0 rfl fg_X2_19 rfl ?_
  refine v_if_ne (tgt := 10) (n := 7) dX2_cut_4 (by decide) rfl ?_ ?_
  · refine v_iload_n (n := 8) dX2_cut_7 rfl 1 rfl rfl ?_
    refine v_i2b (n := 9) dX2_cut_8 rfl ?_
    exact v_iret dX2_cut_9 rfl rfl
  · refine v_aload_n (n := 11) dX2_cut_10 rfl 0 rfl rfl ?_
    refine v_getI (n := 14) (i := 2) dX2_cut_11 hq0 rfl fg_X2_19 rfl ?_
    refine v_iconst (n := 15) (v := 1) dX2_cut_14 ci_1 rfl ?_
    refine v_icmp_ne (tgt := 23) (n := 18) dX2_cut_15 (by decide) rfl ?_ ?_
    · refine v_iload_n (n := 19) dX2_cut_18 rfl 1 rfl rfl ?_
      refine v_i2s (n := 20) dX2_cut_19 rfl ?_
      refine v_goto (tgt := 24) dX2_cut_20 (by decide) ?_
      exact v_iret dX2_cut_24 rfl rfl
    · refine v_iload_n (n := 24) dX2_cut_23 rfl 1 rfl rfl ?_
      exact v_iret dX2_cut_24 rfl rfl
theorem M_X2_cut (G : GG) (q0 : Nat) (hq0 : isO q0 2) (a1 : Int32) (μ : Mem) (t : Int32 × Mem) (ht : f_X2_cut q0 a1 μ = some t) : GM G J_X2_cut yX2_cut [.ref (G.2.1 q0), .int a1] μ (oI t) :=
  gm_of (J := J_X2_cut) (k := kI) rfl (by decide) (Nat.le_of_ble_eq_true rfl) (v_X2_cut G q0 hq0 a1 μ) ht rfl
set_option maxRecDepth 100000 in
set_option maxHeartbeats 4000000 in
theorem v_X4_put (G : GG) (a1 : Int32) (a2 : Int32) (a3 : Int32) (μ : Mem) : V G J_X4_put 0 [(0, .ref (G.2.1 0)), (1, .int a1), (2, .int a2), (3, .int a3)] [] μ (f_X4_put a1 a2 a3 μ) kI := by
  rw [f_X4_put]
  refine v_aload_n (n := 1) dX4_put_0 rfl 0 rfl rfl ?_
  refine v_iconst (n := 2) (v := 0) dX4_put_1 ci_0 rfl ?_
  refine v_put (n := 5) (i := 11) dX4_put_2 (show isO 0 4 from rfl) rfl fp_X4_52 rfl rfl rfl ?_
  refine v_lm (fun μ1 => ?_)
  refine v_iload_n (n := 6) dX4_put_5 rfl 1 rfl rfl ?_
  refine v_cSi (n := 9) (st := []) [.int a1] dX4_put_6 (fun t ht => M_X4_isSheet G a1 μ1 t ht) cal_X4_isSheet mw34 rfl rfl (Nat.le_of_ble_eq_true rfl) ⟨Nat.le_of_ble_eq_true rfl, Nat.le_of_ble_eq_true rfl⟩ rfl (fun x3 μ2 => ?_)
  refine v_if_ne (tgt := 14) (n := 12) dX4_put_9 (by decide) rfl ?_ ?_
  · refine v_iconst (n := 13) (v := -1) dX4_put_12 ci_m1 rfl ?_
    exact v_iret dX4_put_13 rfl rfl
  · refine v_aload_n (n := 15) dX4_put_14 rfl 0 rfl rfl ?_
    refine v_getR (n := 18) (i := 0) (q2 := 1) dX4_put_15 (show isO 0 4 from rfl) rfl fg_X4_13 rfl ?_
    refine v_iload_n (n := 19) dX4_put_18 rfl 1 rfl rfl ?_
    refine v_aald (n := 20) dX4_put_19 rfl (fun q4 hq4 => ?_)
    refine v_astore (n := 22) [(4, .ref (G.2.1 q4)), (0, .ref (G.2.1 0)), (1, .int a1), (2, .int a2), (3, .int a3)] dX4_put_20 (by decide) rfl rfl ?_
    refine v_aload (n := 24) dX4_put_22 0 rfl rfl ?_
    refine v_getI (n := 27) (i := 1) dX4_put_24 hq4 rfl fg_X4_214 rfl ?_
    refine v_if_ne (tgt := 36) (n := 30) dX4_put_27 (by decide) rfl ?_ ?_
    · refine v_aload_n (n := 31) dX4_put_30 rfl 1 rfl rfl ?_
      refine v_iconst (n := 32) (v := 1) dX4_put_31 ci_1 rfl ?_
      refine v_cVi (n := 35) (st := []) [.int (1 : Int32)] dX4_put_32 (fun t ht => M_X4_failed G (1 : Int32) μ2 t ht) cal_X4_failed mw47 (show isO 0 4 from rfl) rfl rfl (Nat.le_of_ble_eq_true rfl) ⟨Nat.le_of_ble_eq_true rfl, Nat.le_of_ble_eq_true rfl⟩ rfl (fun x13 μ12 => ?_)
      exact v_iret dX4_put_35 rfl rfl
    · refine v_aload (n := 38) dX4_put_36 0 rfl rfl ?_
      refine v_iload_n (n := 39) dX4_put_38 rfl 3 rfl rfl ?_
      refine v_iconst (n := 40) (v := 1) dX4_put_39 ci_1 rfl ?_
      refine v_cVi (n := 43) (st := []) [.int a2, .int (1 : Int32)] dX4_put_40 (fun t ht => M_X2_hasCells G q4 hq4 a2 (1 : Int32) μ2 t ht) cal_X2_hasCells mw48 hq4 rfl rfl (Nat.le_of_ble_eq_true rfl) ⟨Nat.le_of_ble_eq_true rfl, Nat.le_of_ble_eq_true rfl⟩ rfl (fun x6 μ5 => ?_)
      refine v_if_ne (tgt := 52) (n := 46) dX4_put_43 (by decide) rfl ?_ ?_
      · refine v_aload_n (n := 47) dX4_put_46 rfl 1 rfl rfl ?_
        refine v_iconst (n := 48) (v := 3) dX4_put_47 ci_3 rfl ?_
        refine v_cVi (n := 51) (st := []) [.int (3 : Int32)] dX4_put_48 (fun t ht => M_X4_failed G (3 : Int32) μ5 t ht) cal_X4_failed mw47 (show isO 0 4 from rfl) rfl rfl (Nat.le_of_ble_eq_true rfl) ⟨Nat.le_of_ble_eq_true rfl, Nat.le_of_ble_eq_true rfl⟩ rfl (fun x11 μ10 => ?_)
        exact v_iret dX4_put_51 rfl rfl
      · refine v_aload (n := 54) dX4_put_52 0 rfl rfl ?_
        refine v_getR (n := 57) (i := 0) (q2 := (q4 + 1)) dX4_put_54 hq4 rfl fg_X4_217 rfl ?_
        refine v_iload_n (n := 58) dX4_put_57 rfl 3 rfl rfl ?_
        refine v_aload (n := 60) dX4_put_58 0 rfl rfl ?_
        refine v_iload_n (n := 61) dX4_put_60 rfl 4 rfl rfl ?_
        refine v_cVi (n := 64) (st := [.int a2, .ref (G.2.1 (q4 + 1))]) [.int a3] dX4_put_61 (fun t ht => M_X2_cut G q4 hq4 a3 μ5 t ht) cal_X2_cut mw136 hq4 rfl rfl (Nat.le_of_ble_eq_true rfl) ⟨Nat.le_of_ble_eq_true rfl, Nat.le_of_ble_eq_true rfl⟩ rfl (fun x8 μ7 => ?_)
        refine v_iast (n := 65) dX4_put_64 (ar2_0 hq4) rfl ?_
        refine v_lm (fun μ9 => ?_)
        refine v_iconst (n := 66) (v := 1) dX4_put_65 ci_1 rfl ?_
        exact v_iret dX4_put_66 rfl rfl
theorem M_X4_put (G : GG) (a1 : Int32) (a2 : Int32) (a3 : Int32) (μ : Mem) (t : Int32 × Mem) (ht : f_X4_put a1 a2 a3 μ = some t) : GM G J_X4_put yX4_put [.ref (G.2.1 0), .int a1, .int a2, .int a3] μ (oI t) :=
  gm_of (J := J_X4_put) (k := kI) rfl (by decide) (Nat.le_of_ble_eq_true rfl) (v_X4_put G a1 a2 a3 μ) ht rfl
set_option maxRecDepth 100000 in
set_option maxHeartbeats 4000000 in
theorem vjn_X4_cell_63 (G : GG) (x2v : Int32) (r4v : Nat) (hr4v : isO r4v 2) (μ : Mem) : V G J_X4_cell 63 [(0, .ref (G.2.1 0)), (2, .int x2v), (4, .ref (G.2.1 r4v))] [] μ (jn_X4_cell_63 x2v r4v μ) kL := by
  rw [jn_X4_cell_63]
  refine v_aload_n (n := 64) dX4_cell_63 rfl 0 rfl rfl ?_
  refine v_getI (n := 67) (i := 11) dX4_cell_64 (show isO 0 4 from rfl) rfl fg_X4_52 rfl ?_
  refine v_if_ne (tgt := 81) (n := 70) dX4_cell_67 (by decide) rfl ?_ ?_
  · refine v_aload (n := 72) dX4_cell_70 2 rfl rfl ?_
    refine v_getR (n := 75) (i := 0) (q2 := (r4v + 1)) dX4_cell_72 hr4v rfl fg_X4_217 rfl ?_
    refine v_iload_n (n := 76) dX4_cell_75 rfl 1 rfl rfl ?_
    refine v_iald (n := 77) dX4_cell_76 (ar2_0 hr4v) rfl ?_
    refine v_i2l (n := 78) dX4_cell_77 rfl ?_
    refine v_goto (tgt := 84) dX4_cell_78 (by decide) ?_
    exact v_lret dX4_cell_84 rfl rfl
  · refine v_ldc2 (n := 84) (v := -9223372036854775808) dX4_cell_81 mw129 rfl ?_
    exact v_lret dX4_cell_84 rfl rfl
set_option maxRecDepth 100000 in
set_option maxHeartbeats 4000000 in
theorem v_X4_cell (G : GG) (a1 : Int32) (a2 : Int32) (a3 : Int32) (μ : Mem) : V G J_X4_cell 0 [(0, .ref (G.2.1 0)), (1, .int a1), (2, .int a2), (3, .int a3)] [] μ (f_X4_cell a1 a2 a3 μ) kL := by
  rw [f_X4_cell]
  refine v_aload_n (n := 1) dX4_cell_0 rfl 0 rfl rfl ?_
  refine v_iconst (n := 2) (v := 0) dX4_cell_1 ci_0 rfl ?_
  refine v_put (n := 5) (i := 11) dX4_cell_2 (show isO 0 4 from rfl) rfl fp_X4_52 rfl rfl rfl ?_
  refine v_lm (fun μ1 => ?_)
  refine v_iload_n (n := 6) dX4_cell_5 rfl 1 rfl rfl ?_
  refine v_cSi (n := 9) (st := []) [.int a1] dX4_cell_6 (fun t ht => M_X4_isSheet G a1 μ1 t ht) cal_X4_isSheet mw34 rfl rfl (Nat.le_of_ble_eq_true rfl) ⟨Nat.le_of_ble_eq_true rfl, Nat.le_of_ble_eq_true rfl⟩ rfl (fun x3 μ2 => ?_)
  refine v_if_eq (tgt := 19) (n := 12) dX4_cell_9 (by decide) rfl ?_ ?_
  · refine v_ldc2 (n := 22) (v := -9223372036854775808) dX4_cell_19 mw129 rfl ?_
    exact v_lret dX4_cell_22 rfl rfl
  · refine v_iload_n (n := 13) dX4_cell_12 rfl 3 rfl rfl ?_
    refine v_cSi (n := 16) (st := []) [.int a3] dX4_cell_13 (fun t ht => M_X4_isLane G a3 μ2 t ht) cal_X4_isLane mw35 rfl rfl (Nat.le_of_ble_eq_true rfl) ⟨Nat.le_of_ble_eq_true rfl, Nat.le_of_ble_eq_true rfl⟩ rfl (fun x5 μ4 => ?_)
    refine v_if_ne (tgt := 23) (n := 19) dX4_cell_16 (by decide) rfl ?_ ?_
    · refine v_ldc2 (n := 22) (v := -9223372036854775808) dX4_cell_19 mw129 rfl ?_
      exact v_lret dX4_cell_22 rfl rfl
    · refine v_aload_n (n := 24) dX4_cell_23 rfl 0 rfl rfl ?_
      refine v_getR (n := 27) (i := 0) (q2 := 1) dX4_cell_24 (show isO 0 4 from rfl) rfl fg_X4_13 rfl ?_
      refine v_iload_n (n := 28) dX4_cell_27 rfl 1 rfl rfl ?_
      refine v_aald (n := 29) dX4_cell_28 rfl (fun q6 hq6 => ?_)
      refine v_astore (n := 31) [(4, .ref (G.2.1 q6)), (0, .ref (G.2.1 0)), (1, .int a1), (2, .int a2), (3, .int a3)] dX4_cell_29 (by decide) rfl rfl ?_
      refine v_aload_n (n := 32) dX4_cell_31 rfl 1 rfl rfl ?_
      refine v_aload (n := 34) dX4_cell_32 0 rfl rfl ?_
      refine v_iload_n (n := 35) dX4_cell_34 rfl 4 rfl rfl ?_
      refine v_cVi (n := 38) (st := [.ref (G.2.1 0)]) [.int a3] dX4_cell_35 (fun t ht => M_X2_faultAs G q6 hq6 a3 μ4 t ht) cal_X2_faultAs mw37 hq6 rfl rfl (Nat.le_of_ble_eq_true rfl) ⟨Nat.le_of_ble_eq_true rfl, Nat.le_of_ble_eq_true rfl⟩ rfl (fun x8 μ7 => ?_)
      refine v_put (n := 41) (i := 11) dX4_cell_38 (show isO 0 4 from rfl) rfl fp_X4_52 rfl rfl rfl ?_
      refine v_lm (fun μ9 => ?_)
      refine v_aload_n (n := 42) dX4_cell_41 rfl 1 rfl rfl ?_
      refine v_getI (n := 45) (i := 11) dX4_cell_42 (show isO 0 4 from rfl) rfl fg_X4_52 rfl ?_
      refine v_if_ne (tgt := 63) (n := 48) dX4_cell_45 (by decide) rfl ?_ ?_
      · refine v_aload (n := 50) dX4_cell_48 0 rfl rfl ?_
        refine v_iload_n (n := 51) dX4_cell_50 rfl 3 rfl rfl ?_
        refine v_iconst (n := 52) (v := 1) dX4_cell_51 ci_1 rfl ?_
        refine v_cVi (n := 55) (st := []) [.int a2, .int (1 : Int32)] dX4_cell_52 (fun t ht => M_X2_hasCells G q6 hq6 a2 (1 : Int32) μ9 t ht) cal_X2_hasCells mw48 hq6 rfl rfl (Nat.le_of_ble_eq_true rfl) ⟨Nat.le_of_ble_eq_true rfl, Nat.le_of_ble_eq_true rfl⟩ rfl (fun x11 μ10 => ?_)
        refine v_if_ne (tgt := 63) (n := 58) dX4_cell_55 (by decide) rfl ?_ ?_
        · refine v_aload_n (n := 59) dX4_cell_58 rfl 1 rfl rfl ?_
          refine v_iconst (n := 60) (v := 3) dX4_cell_59 ci_3 rfl ?_
          refine v_put (n := 63) (i := 11) dX4_cell_60 (show isO 0 4 from rfl) rfl fp_X4_52 rfl rfl rfl ?_
          refine v_lm (fun μ12 => ?_)
          exact v_sub [1, 3, 0] rfl (vjn_X4_cell_63 G a2 q6 hq6 μ12)
        · exact v_sub [1, 3, 0] rfl (vjn_X4_cell_63 G a2 q6 hq6 μ10)
      · exact v_sub [1, 3, 0] rfl (vjn_X4_cell_63 G a2 q6 hq6 μ9)
theorem M_X4_cell (G : GG) (a1 : Int32) (a2 : Int32) (a3 : Int32) (μ : Mem) (t : Int64 × Mem) (ht : f_X4_cell a1 a2 a3 μ = some t) : GM G J_X4_cell yX4_cell [.ref (G.2.1 0), .int a1, .int a2, .int a3] μ (oL t) :=
  gm_of (J := J_X4_cell) (k := kL) rfl (by decide) (Nat.le_of_ble_eq_true rfl) (v_X4_cell G a1 a2 a3 μ) ht rfl
set_option maxRecDepth 100000 in
set_option maxHeartbeats 4000000 in
theorem v_X4_copy (G : GG) (a1 : Int32) (a2 : Int32) (a3 : Int32) (a4 : Int32) (a5 : Int32) (μ : Mem) : V G J_X4_copy 0 [(0, .ref (G.2.1 0)), (1, .int a1), (2, .int a2), (3, .int a3), (4, .int a4), (5, .int a5)] [] μ (f_X4_copy a1 a2 a3 a4 a5 μ) kI := by
  rw [f_X4_copy]
  refine v_aload_n (n := 1) dX4_copy_0 rfl 0 rfl rfl ?_
  refine v_iconst (n := 2) (v := 0) dX4_copy_1 ci_0 rfl ?_
  refine v_put (n := 5) (i := 11) dX4_copy_2 (show isO 0 4 from rfl) rfl fp_X4_52 rfl rfl rfl ?_
  refine v_lm (fun μ1 => ?_)
  refine v_iload_n (n := 6) dX4_copy_5 rfl 1 rfl rfl ?_
  refine v_cSi (n := 9) (st := []) [.int a1] dX4_copy_6 (fun t ht => M_X4_isSheet G a1 μ1 t ht) cal_X4_isSheet mw34 rfl rfl (Nat.le_of_ble_eq_true rfl) ⟨Nat.le_of_ble_eq_true rfl, Nat.le_of_ble_eq_true rfl⟩ rfl (fun x3 μ2 => ?_)
  refine v_if_eq (tgt := 19) (n := 12) dX4_copy_9 (by decide) rfl ?_ ?_
  · refine v_iconst (n := 20) (v := -1) dX4_copy_19 ci_m1 rfl ?_
    exact v_iret dX4_copy_20 rfl rfl
  · refine v_iload_n (n := 13) dX4_copy_12 rfl 3 rfl rfl ?_
    refine v_cSi (n := 16) (st := []) [.int a3] dX4_copy_13 (fun t ht => M_X4_isSheet G a3 μ2 t ht) cal_X4_isSheet mw34 rfl rfl (Nat.le_of_ble_eq_true rfl) ⟨Nat.le_of_ble_eq_true rfl, Nat.le_of_ble_eq_true rfl⟩ rfl (fun x5 μ4 => ?_)
    refine v_if_ne (tgt := 21) (n := 19) dX4_copy_16 (by decide) rfl ?_ ?_
    · refine v_iconst (n := 20) (v := -1) dX4_copy_19 ci_m1 rfl ?_
      exact v_iret dX4_copy_20 rfl rfl
    · refine v_aload_n (n := 22) dX4_copy_21 rfl 0 rfl rfl ?_
      refine v_getR (n := 25) (i := 0) (q2 := 1) dX4_copy_22 (show isO 0 4 from rfl) rfl fg_X4_13 rfl ?_
      refine v_iload_n (n := 26) dX4_copy_25 rfl 1 rfl rfl ?_
      refine v_aald (n := 27) dX4_copy_26 rfl (fun q6 hq6 => ?_)
      refine v_astore (n := 29) [(6, .ref (G.2.1 q6)), (0, .ref (G.2.1 0)), (1, .int a1), (2, .int a2), (3, .int a3), (4, .int a4), (5, .int a5)] dX4_copy_27 (by decide) rfl rfl ?_
      refine v_aload_n (n := 30) dX4_copy_29 rfl 1 rfl rfl ?_
      refine v_getR (n := 33) (i := 0) (q2 := 1) dX4_copy_30 (show isO 0 4 from rfl) rfl fg_X4_13 rfl ?_
      refine v_iload_n (n := 34) dX4_copy_33 rfl 4 rfl rfl ?_
      refine v_aald (n := 35) dX4_copy_34 rfl (fun q7 hq7 => ?_)
      refine v_astore (n := 37) [(7, .ref (G.2.1 q7)), (6, .ref (G.2.1 q6)), (0, .ref (G.2.1 0)), (1, .int a1), (2, .int a2), (3, .int a3), (4, .int a4), (5, .int a5)] dX4_copy_35 (by decide) rfl rfl ?_
      refine v_aload (n := 39) dX4_copy_37 1 rfl rfl ?_
      refine v_getI (n := 42) (i := 1) dX4_copy_39 hq6 rfl fg_X4_214 rfl ?_
      refine v_if_eq (tgt := 53) (n := 45) dX4_copy_42 (by decide) rfl ?_ ?_
      · refine v_aload_n (n := 54) dX4_copy_53 rfl 2 rfl rfl ?_
        refine v_iconst (n := 55) (v := 1) dX4_copy_54 ci_1 rfl ?_
        refine v_cVi (n := 58) (st := []) [.int (1 : Int32)] dX4_copy_55 (fun t ht => M_X4_failed G (1 : Int32) μ4 t ht) cal_X4_failed mw47 (show isO 0 4 from rfl) rfl rfl (Nat.le_of_ble_eq_true rfl) ⟨Nat.le_of_ble_eq_true rfl, Nat.le_of_ble_eq_true rfl⟩ rfl (fun x9 μ8 => ?_)
        exact v_iret dX4_copy_58 rfl rfl
      · refine v_aload (n := 47) dX4_copy_45 0 rfl rfl ?_
        refine v_getI (n := 50) (i := 1) dX4_copy_47 hq7 rfl fg_X4_214 rfl ?_
        refine v_if_ne (tgt := 59) (n := 53) dX4_copy_50 (by decide) rfl ?_ ?_
        · refine v_aload_n (n := 54) dX4_copy_53 rfl 2 rfl rfl ?_
          refine v_iconst (n := 55) (v := 1) dX4_copy_54 ci_1 rfl ?_
          refine v_cVi (n := 58) (st := []) [.int (1 : Int32)] dX4_copy_55 (fun t ht => M_X4_failed G (1 : Int32) μ4 t ht) cal_X4_failed mw47 (show isO 0 4 from rfl) rfl rfl (Nat.le_of_ble_eq_true rfl) ⟨Nat.le_of_ble_eq_true rfl, Nat.le_of_ble_eq_true rfl⟩ rfl (fun x22 μ21 => ?_)
          exact v_iret dX4_copy_58 rfl rfl
        · refine v_aload (n := 61) dX4_copy_59 1 rfl rfl ?_
          refine v_getI (n := 64) (i := 2) dX4_copy_61 hq6 rfl fg_X4_223 rfl ?_
          refine v_aload (n := 66) dX4_copy_64 0 rfl rfl ?_
          refine v_getI (n := 69) (i := 2) dX4_copy_66 hq7 rfl fg_X4_223 rfl ?_
          refine v_icmp_eq (tgt := 78) (n := 72) dX4_copy_69 (by decide) rfl ?_ ?_
          · refine v_aload (n := 80) dX4_copy_78 1 rfl rfl ?_
            refine v_iload_n (n := 81) dX4_copy_80 rfl 4 rfl rfl ?_
            refine v_iload (n := 83) dX4_copy_81 7 rfl rfl ?_
            refine v_cVi (n := 86) (st := []) [.int a2, .int a5] dX4_copy_83 (fun t ht => M_X2_hasCells G q6 hq6 a2 a5 μ4 t ht) cal_X2_hasCells mw48 hq6 rfl rfl (Nat.le_of_ble_eq_true rfl) ⟨Nat.le_of_ble_eq_true rfl, Nat.le_of_ble_eq_true rfl⟩ rfl (fun x11 μ10 => ?_)
            refine v_if_eq (tgt := 101) (n := 89) dX4_copy_86 (by decide) rfl ?_ ?_
            · refine v_aload_n (n := 102) dX4_copy_101 rfl 2 rfl rfl ?_
              refine v_iconst (n := 103) (v := 3) dX4_copy_102 ci_3 rfl ?_
              refine v_cVi (n := 106) (st := []) [.int (3 : Int32)] dX4_copy_103 (fun t ht => M_X4_failed G (3 : Int32) μ10 t ht) cal_X4_failed mw47 (show isO 0 4 from rfl) rfl rfl (Nat.le_of_ble_eq_true rfl) ⟨Nat.le_of_ble_eq_true rfl, Nat.le_of_ble_eq_true rfl⟩ rfl (fun x13 μ12 => ?_)
              exact v_iret dX4_copy_106 rfl rfl
            · refine v_aload (n := 91) dX4_copy_89 0 rfl rfl ?_
              refine v_iload (n := 93) dX4_copy_91 6 rfl rfl ?_
              refine v_iload (n := 95) dX4_copy_93 7 rfl rfl ?_
              refine v_cVi (n := 98) (st := []) [.int a4, .int a5] dX4_copy_95 (fun t ht => M_X2_hasCells G q7 hq7 a4 a5 μ10 t ht) cal_X2_hasCells mw48 hq7 rfl rfl (Nat.le_of_ble_eq_true rfl) ⟨Nat.le_of_ble_eq_true rfl, Nat.le_of_ble_eq_true rfl⟩ rfl (fun x15 μ14 => ?_)
              refine v_if_ne (tgt := 107) (n := 101) dX4_copy_98 (by decide) rfl ?_ ?_
              · refine v_aload_n (n := 102) dX4_copy_101 rfl 2 rfl rfl ?_
                refine v_iconst (n := 103) (v := 3) dX4_copy_102 ci_3 rfl ?_
                refine v_cVi (n := 106) (st := []) [.int (3 : Int32)] dX4_copy_103 (fun t ht => M_X4_failed G (3 : Int32) μ14 t ht) cal_X4_failed mw47 (show isO 0 4 from rfl) rfl rfl (Nat.le_of_ble_eq_true rfl) ⟨Nat.le_of_ble_eq_true rfl, Nat.le_of_ble_eq_true rfl⟩ rfl (fun x18 μ17 => ?_)
                exact v_iret dX4_copy_106 rfl rfl
              · refine v_aload (n := 109) dX4_copy_107 1 rfl rfl ?_
                refine v_getR (n := 112) (i := 0) (q2 := (q6 + 1)) dX4_copy_109 hq6 rfl fg_X4_217 rfl ?_
                refine v_iload_n (n := 113) dX4_copy_112 rfl 4 rfl rfl ?_
                refine v_aload (n := 115) dX4_copy_113 0 rfl rfl ?_
                refine v_getR (n := 118) (i := 0) (q2 := (q7 + 1)) dX4_copy_115 hq7 rfl fg_X4_217 rfl ?_
                refine v_iload (n := 120) dX4_copy_118 6 rfl rfl ?_
                refine v_iload (n := 122) dX4_copy_120 7 rfl rfl ?_
                refine v_acopy (n := 125) dX4_copy_122 mw138 mw27 mw28 mw29 (ar2_0 hq6) (ar2_0 hq7) (Nat.le_of_ble_eq_true rfl) (Nat.le_of_ble_eq_true rfl) rfl ?_
                refine v_lm (fun μ16 => ?_)
                refine v_iload (n := 127) dX4_copy_125 7 rfl rfl ?_
                exact v_iret dX4_copy_127 rfl rfl
          · refine v_aload_n (n := 73) dX4_copy_72 rfl 2 rfl rfl ?_
            refine v_iconst (n := 74) (v := 2) dX4_copy_73 ci_2 rfl ?_
            refine v_cVi (n := 77) (st := []) [.int (2 : Int32)] dX4_copy_74 (fun t ht => M_X4_failed G (2 : Int32) μ4 t ht) cal_X4_failed mw47 (show isO 0 4 from rfl) rfl rfl (Nat.le_of_ble_eq_true rfl) ⟨Nat.le_of_ble_eq_true rfl, Nat.le_of_ble_eq_true rfl⟩ rfl (fun x20 μ19 => ?_)
            exact v_iret dX4_copy_77 rfl rfl
theorem M_X4_copy (G : GG) (a1 : Int32) (a2 : Int32) (a3 : Int32) (a4 : Int32) (a5 : Int32) (μ : Mem) (t : Int32 × Mem) (ht : f_X4_copy a1 a2 a3 a4 a5 μ = some t) : GM G J_X4_copy yX4_copy [.ref (G.2.1 0), .int a1, .int a2, .int a3, .int a4, .int a5] μ (oI t) :=
  gm_of (J := J_X4_copy) (k := kI) rfl (by decide) (Nat.le_of_ble_eq_true rfl) (v_X4_copy G a1 a2 a3 a4 a5 μ) ht rfl
set_option maxRecDepth 100000 in
set_option maxHeartbeats 4000000 in
theorem v_X4_leaveTrace (G : GG) (a1 : Int32) (μ : Mem) : V G J_X4_leaveTrace 0 [(0, .ref (G.2.1 0)), (1, .int a1)] [] μ (f_X4_leaveTrace a1 μ) kV := by
  rw [f_X4_leaveTrace]
  refine v_aload_n (n := 1) dX4_leaveTrace_0 rfl 0 rfl rfl ?_
  refine v_bipush (n := 3) (v := 31) dX4_leaveTrace_1 cb_31 rfl ?_
  refine v_aload_n (n := 4) dX4_leaveTrace_3 rfl 0 rfl rfl ?_
  refine v_getI (n := 7) (i := 10) dX4_leaveTrace_4 (show isO 0 4 from rfl) rfl fg_X4_247 rfl ?_
  refine v_imul (n := 8) dX4_leaveTrace_7 rfl ?_
  refine v_iload_n (n := 9) dX4_leaveTrace_8 rfl 1 rfl rfl ?_
  refine v_iadd (n := 10) dX4_leaveTrace_9 rfl ?_
  refine v_put (n := 13) (i := 10) dX4_leaveTrace_10 (show isO 0 4 from rfl) rfl fp_X4_247 rfl rfl rfl ?_
  refine v_lm (fun μ1 => ?_)
  exact v_vret dX4_leaveTrace_13 rfl rfl
theorem M_X4_leaveTrace (G : GG) (a1 : Int32) (μ : Mem) (t : Mem) (ht : f_X4_leaveTrace a1 μ = some t) : GM G J_X4_leaveTrace yX4_leaveTrace [.ref (G.2.1 0), .int a1] μ (oV t) :=
  gm_of (J := J_X4_leaveTrace) (k := kV) rfl (by decide) (Nat.le_of_ble_eq_true rfl) (v_X4_leaveTrace G a1 μ) ht rfl
set_option maxRecDepth 100000 in
set_option maxHeartbeats 4000000 in
theorem v_X4_plainBody (G : GG) (a1 : Int32) (μ : Mem) : V G J_X4_plainBody 0 [(0, .ref (G.2.1 0)), (1, .int a1)] [] μ (f_X4_plainBody a1 μ) kI := by
  rw [f_X4_plainBody]
  refine v_aload_n (n := 1) dX4_plainBody_0 rfl 0 rfl rfl ?_
  refine v_iconst (n := 2) (v := 1) dX4_plainBody_1 ci_1 rfl ?_
  refine v_cVv (n := 5) (st := []) [.int (1 : Int32)] dX4_plainBody_2 (fun t ht => M_X4_leaveTrace G (1 : Int32) μ t ht) cal_X4_leaveTrace mw140 (show isO 0 4 from rfl) rfl rfl (Nat.le_of_ble_eq_true rfl) ⟨Nat.le_of_ble_eq_true rfl, Nat.le_of_ble_eq_true rfl⟩ rfl (fun μ1 => ?_)
  refine v_aload_n (n := 6) dX4_plainBody_5 rfl 0 rfl rfl ?_
  refine v_getR (n := 9) (i := 1) (q2 := 2) dX4_plainBody_6 (show isO 0 4 from rfl) rfl fg_X4_20 rfl ?_
  refine v_getR (n := 12) (i := 1) (q2 := 4) dX4_plainBody_9 (show isO 2 1 from rfl) rfl fg_X4_101 rfl ?_
  refine v_iload_n (n := 13) dX4_plainBody_12 rfl 1 rfl rfl ?_
  refine v_iald (n := 14) dX4_plainBody_13 (show isA 4 7 from rfl) rfl ?_
  exact v_iret dX4_plainBody_14 rfl rfl
theorem M_X4_plainBody (G : GG) (a1 : Int32) (μ : Mem) (t : Int32 × Mem) (ht : f_X4_plainBody a1 μ = some t) : GM G J_X4_plainBody yX4_plainBody [.ref (G.2.1 0), .int a1] μ (oI t) :=
  gm_of (J := J_X4_plainBody) (k := kI) rfl (by decide) (Nat.le_of_ble_eq_true rfl) (v_X4_plainBody G a1 μ) ht rfl
set_option maxRecDepth 100000 in
set_option maxHeartbeats 4000000 in
theorem v_X4_longBody (G : GG) (a1 : Int32) (μ : Mem) : V G J_X4_longBody 0 [(0, .ref (G.2.1 0)), (1, .int a1)] [] μ (f_X4_longBody a1 μ) kI := by
  rw [f_X4_longBody]
  refine v_aload_n (n := 1) dX4_longBody_0 rfl 0 rfl rfl ?_
  refine v_iconst (n := 2) (v := 2) dX4_longBody_1 ci_2 rfl ?_
  refine v_cVv (n := 5) (st := []) [.int (2 : Int32)] dX4_longBody_2 (fun t ht => M_X4_leaveTrace G (2 : Int32) μ t ht) cal_X4_leaveTrace mw140 (show isO 0 4 from rfl) rfl rfl (Nat.le_of_ble_eq_true rfl) ⟨Nat.le_of_ble_eq_true rfl, Nat.le_of_ble_eq_true rfl⟩ rfl (fun μ1 => ?_)
  refine v_aload_n (n := 6) dX4_longBody_5 rfl 0 rfl rfl ?_
  refine v_iload_n (n := 7) dX4_longBody_6 rfl 1 rfl rfl ?_
  refine v_cVi (n := 10) (st := []) [.int a1] dX4_longBody_7 (fun t ht => M_X4_plainBody G a1 μ1 t ht) cal_X4_plainBody mw141 (show isO 0 4 from rfl) rfl rfl (Nat.le_of_ble_eq_true rfl) ⟨Nat.le_of_ble_eq_true rfl, Nat.le_of_ble_eq_true rfl⟩ rfl (fun x3 μ2 => ?_)
  refine v_bipush (n := 12) (v := 100) dX4_longBody_10 cb_100 rfl ?_
  refine v_iadd (n := 13) dX4_longBody_12 rfl ?_
  exact v_iret dX4_longBody_13 rfl rfl
theorem M_X4_longBody (G : GG) (a1 : Int32) (μ : Mem) (t : Int32 × Mem) (ht : f_X4_longBody a1 μ = some t) : GM G J_X4_longBody yX4_longBody [.ref (G.2.1 0), .int a1] μ (oI t) :=
  gm_of (J := J_X4_longBody) (k := kI) rfl (by decide) (Nat.le_of_ble_eq_true rfl) (v_X4_longBody G a1 μ) ht rfl
set_option maxRecDepth 100000 in
set_option maxHeartbeats 4000000 in
theorem v_X4_doubleBody (G : GG) (a1 : Int32) (μ : Mem) : V G J_X4_doubleBody 0 [(0, .ref (G.2.1 0)), (1, .int a1)] [] μ (f_X4_doubleBody a1 μ) kI := by
  rw [f_X4_doubleBody]
  refine v_aload_n (n := 1) dX4_doubleBody_0 rfl 0 rfl rfl ?_
  refine v_iconst (n := 2) (v := 3) dX4_doubleBody_1 ci_3 rfl ?_
  refine v_cVv (n := 5) (st := []) [.int (3 : Int32)] dX4_doubleBody_2 (fun t ht => M_X4_leaveTrace G (3 : Int32) μ t ht) cal_X4_leaveTrace mw140 (show isO 0 4 from rfl) rfl rfl (Nat.le_of_ble_eq_true rfl) ⟨Nat.le_of_ble_eq_true rfl, Nat.le_of_ble_eq_true rfl⟩ rfl (fun μ1 => ?_)
  refine v_aload_n (n := 6) dX4_doubleBody_5 rfl 0 rfl rfl ?_
  refine v_iload_n (n := 7) dX4_doubleBody_6 rfl 1 rfl rfl ?_
  refine v_cVi (n := 10) (st := []) [.int a1] dX4_doubleBody_7 (fun t ht => M_X4_longBody G a1 μ1 t ht) cal_X4_longBody mw142 (show isO 0 4 from rfl) rfl rfl (Nat.le_of_ble_eq_true rfl) ⟨Nat.le_of_ble_eq_true rfl, Nat.le_of_ble_eq_true rfl⟩ rfl (fun x3 μ2 => ?_)
  refine v_istore_n (n := 11) [(2, .int x3), (0, .ref (G.2.1 0)), (1, .int a1)] dX4_doubleBody_10 rfl (by decide) rfl rfl ?_
  refine v_iload_n (n := 12) dX4_doubleBody_11 rfl 0 rfl rfl ?_
  refine v_aload_n (n := 13) dX4_doubleBody_12 rfl 1 rfl rfl ?_
  refine v_iload_n (n := 14) dX4_doubleBody_13 rfl 2 rfl rfl ?_
  refine v_cVi (n := 17) (st := [.int x3]) [.int a1] dX4_doubleBody_14 (fun t ht => M_X4_plainBody G a1 μ2 t ht) cal_X4_plainBody mw141 (show isO 0 4 from rfl) rfl rfl (Nat.le_of_ble_eq_true rfl) ⟨Nat.le_of_ble_eq_true rfl, Nat.le_of_ble_eq_true rfl⟩ rfl (fun x5 μ4 => ?_)
  refine v_iadd (n := 18) dX4_doubleBody_17 rfl ?_
  exact v_iret dX4_doubleBody_18 rfl rfl
theorem M_X4_doubleBody (G : GG) (a1 : Int32) (μ : Mem) (t : Int32 × Mem) (ht : f_X4_doubleBody a1 μ = some t) : GM G J_X4_doubleBody yX4_doubleBody [.ref (G.2.1 0), .int a1] μ (oI t) :=
  gm_of (J := J_X4_doubleBody) (k := kI) rfl (by decide) (Nat.le_of_ble_eq_true rfl) (v_X4_doubleBody G a1 μ) ht rfl
set_option maxRecDepth 100000 in
set_option maxHeartbeats 4000000 in
theorem v_X4_tell (G : GG) (a1 : Int32) (μ : Mem) : V G J_X4_tell 0 [(0, .ref (G.2.1 0)), (1, .int a1)] [] μ (f_X4_tell a1 μ) kI := by
  rw [f_X4_tell]
  refine v_aload_n (n := 1) dX4_tell_0 rfl 0 rfl rfl ?_
  refine v_getR (n := 4) (i := 1) (q2 := 2) dX4_tell_1 (show isO 0 4 from rfl) rfl fg_X4_20 rfl ?_
  refine v_iload_n (n := 5) dX4_tell_4 rfl 1 rfl rfl ?_
  refine v_cVi (n := 8) (st := []) [.int a1] dX4_tell_5 (fun t ht => M_X1_hasLeft G 2 (show isO 2 1 from rfl) a1 μ t ht) cal_X1_hasLeft mw89 (show isO 2 1 from rfl) rfl rfl (Nat.le_of_ble_eq_true rfl) ⟨Nat.le_of_ble_eq_true rfl, Nat.le_of_ble_eq_true rfl⟩ rfl (fun x2 μ1 => ?_)
  refine v_if_ne (tgt := 13) (n := 11) dX4_tell_8 (by decide) rfl ?_ ?_
  · refine v_iconst (n := 12) (v := -1) dX4_tell_11 ci_m1 rfl ?_
    exact v_iret dX4_tell_12 rfl rfl
  · refine v_aload_n (n := 14) dX4_tell_13 rfl 0 rfl rfl ?_
    refine v_getR (n := 17) (i := 1) (q2 := 2) dX4_tell_14 (show isO 0 4 from rfl) rfl fg_X4_20 rfl ?_
    refine v_getR (n := 20) (i := 0) (q2 := 3) dX4_tell_17 (show isO 2 1 from rfl) rfl fg_X4_98 rfl ?_
    refine v_iload_n (n := 21) dX4_tell_20 rfl 1 rfl rfl ?_
    refine v_iald (n := 22) dX4_tell_21 (show isA 3 7 from rfl) rfl ?_
    refine v_lt (fun x3 => ?_)
    refine v_swif ?_ (fun hs0 => ?_)
    · refine v_lkp (tgt := 54) dX4_tell_22 (by decide) rfl (by decide) ?_
      refine v_aload_n (n := 55) dX4_tell_54 rfl 0 rfl rfl ?_
      refine v_iload_n (n := 56) dX4_tell_55 rfl 1 rfl rfl ?_
      refine v_cVi (n := 59) (st := []) [.int a1] dX4_tell_56 (fun t ht => M_X4_longBody G a1 μ1 t ht) cal_X4_longBody mw142 (show isO 0 4 from rfl) rfl rfl (Nat.le_of_ble_eq_true rfl) ⟨Nat.le_of_ble_eq_true rfl, Nat.le_of_ble_eq_true rfl⟩ rfl (fun x5 μ4 => ?_)
      exact v_iret dX4_tell_59 rfl rfl
    refine v_swif ?_ (fun hs1 => ?_)
    · refine v_lkp (tgt := 48) dX4_tell_22 (by decide) rfl (by decide) ?_
      refine v_aload_n (n := 49) dX4_tell_48 rfl 0 rfl rfl ?_
      refine v_iload_n (n := 50) dX4_tell_49 rfl 1 rfl rfl ?_
      refine v_cVi (n := 53) (st := []) [.int a1] dX4_tell_50 (fun t ht => M_X4_doubleBody G a1 μ1 t ht) cal_X4_doubleBody mw143 (show isO 0 4 from rfl) rfl rfl (Nat.le_of_ble_eq_true rfl) ⟨Nat.le_of_ble_eq_true rfl, Nat.le_of_ble_eq_true rfl⟩ rfl (fun x7 μ6 => ?_)
      exact v_iret dX4_tell_53 rfl rfl
    refine v_lkp (tgt := 60) (off := 38) dX4_tell_22 (by decide) (by show Op.lookupswitch.offset _ _ _ = _; rw [lv_osw hs0 (by decide : (1 : Int32).toInt = 1), lv_osw hs1 (by decide : (2 : Int32).toInt = 2)]; rfl) (by decide) ?_
    refine v_aload_n (n := 61) dX4_tell_60 rfl 0 rfl rfl ?_
    refine v_iload_n (n := 62) dX4_tell_61 rfl 1 rfl rfl ?_
    refine v_cVi (n := 65) (st := []) [.int a1] dX4_tell_62 (fun t ht => M_X4_plainBody G a1 μ1 t ht) cal_X4_plainBody mw141 (show isO 0 4 from rfl) rfl rfl (Nat.le_of_ble_eq_true rfl) ⟨Nat.le_of_ble_eq_true rfl, Nat.le_of_ble_eq_true rfl⟩ rfl (fun x9 μ8 => ?_)
    exact v_iret dX4_tell_65 rfl rfl
theorem M_X4_tell (G : GG) (a1 : Int32) (μ : Mem) (t : Int32 × Mem) (ht : f_X4_tell a1 μ = some t) : GM G J_X4_tell yX4_tell [.ref (G.2.1 0), .int a1] μ (oI t) :=
  gm_of (J := J_X4_tell) (k := kI) rfl (by decide) (Nat.le_of_ble_eq_true rfl) (v_X4_tell G a1 μ) ht rfl
set_option maxRecDepth 100000 in
set_option maxHeartbeats 4000000 in
theorem v_X4_lentBody (G : GG) (a1 : Int32) (μ : Mem) : V G J_X4_lentBody 0 [(0, .ref (G.2.1 0)), (1, .int a1)] [] μ (f_X4_lentBody a1 μ) kI := by
  rw [f_X4_lentBody]
  refine v_aload_n (n := 1) dX4_lentBody_0 rfl 0 rfl rfl ?_
  refine v_iconst (n := 2) (v := 4) dX4_lentBody_1 ci_4 rfl ?_
  refine v_cVv (n := 5) (st := []) [.int (4 : Int32)] dX4_lentBody_2 (fun t ht => M_X4_leaveTrace G (4 : Int32) μ t ht) cal_X4_leaveTrace mw140 (show isO 0 4 from rfl) rfl rfl (Nat.le_of_ble_eq_true rfl) ⟨Nat.le_of_ble_eq_true rfl, Nat.le_of_ble_eq_true rfl⟩ rfl (fun μ1 => ?_)
  refine v_aload_n (n := 6) dX4_lentBody_5 rfl 0 rfl rfl ?_
  refine v_getR (n := 9) (i := 1) (q2 := 2) dX4_lentBody_6 (show isO 0 4 from rfl) rfl fg_X4_20 rfl ?_
  refine v_getR (n := 12) (i := 2) (q2 := 5) dX4_lentBody_9 (show isO 2 1 from rfl) rfl fg_X4_107 rfl ?_
  refine v_iload_n (n := 13) dX4_lentBody_12 rfl 1 rfl rfl ?_
  refine v_iald (n := 14) dX4_lentBody_13 (show isA 5 7 from rfl) rfl ?_
  exact v_iret dX4_lentBody_14 rfl rfl
theorem M_X4_lentBody (G : GG) (a1 : Int32) (μ : Mem) (t : Int32 × Mem) (ht : f_X4_lentBody a1 μ = some t) : GM G J_X4_lentBody yX4_lentBody [.ref (G.2.1 0), .int a1] μ (oI t) :=
  gm_of (J := J_X4_lentBody) (k := kI) rfl (by decide) (Nat.le_of_ble_eq_true rfl) (v_X4_lentBody G a1 μ) ht rfl
set_option maxRecDepth 100000 in
set_option maxHeartbeats 4000000 in
theorem v_X4_doublesOwnBody (G : GG) (a1 : Int32) (μ : Mem) : V G J_X4_doublesOwnBody 0 [(0, .ref (G.2.1 0)), (1, .int a1)] [] μ (f_X4_doublesOwnBody a1 μ) kI := by
  rw [f_X4_doublesOwnBody]
  refine v_aload_n (n := 1) dX4_doublesOwnBody_0 rfl 0 rfl rfl ?_
  refine v_iconst (n := 2) (v := 5) dX4_doublesOwnBody_1 ci_5 rfl ?_
  refine v_cVv (n := 5) (st := []) [.int (5 : Int32)] dX4_doublesOwnBody_2 (fun t ht => M_X4_leaveTrace G (5 : Int32) μ t ht) cal_X4_leaveTrace mw140 (show isO 0 4 from rfl) rfl rfl (Nat.le_of_ble_eq_true rfl) ⟨Nat.le_of_ble_eq_true rfl, Nat.le_of_ble_eq_true rfl⟩ rfl (fun μ1 => ?_)
  refine v_aload_n (n := 6) dX4_doublesOwnBody_5 rfl 0 rfl rfl ?_
  refine v_iload_n (n := 7) dX4_doublesOwnBody_6 rfl 1 rfl rfl ?_
  refine v_cVi (n := 10) (st := []) [.int a1] dX4_doublesOwnBody_7 (fun t ht => M_X4_lentBody G a1 μ1 t ht) cal_X4_lentBody mw144 (show isO 0 4 from rfl) rfl rfl (Nat.le_of_ble_eq_true rfl) ⟨Nat.le_of_ble_eq_true rfl, Nat.le_of_ble_eq_true rfl⟩ rfl (fun x3 μ2 => ?_)
  refine v_bipush (n := 12) (v := 80) dX4_doublesOwnBody_10 cb_80 rfl ?_
  refine v_iadd (n := 13) dX4_doublesOwnBody_12 rfl ?_
  exact v_iret dX4_doublesOwnBody_13 rfl rfl
theorem M_X4_doublesOwnBody (G : GG) (a1 : Int32) (μ : Mem) (t : Int32 × Mem) (ht : f_X4_doublesOwnBody a1 μ = some t) : GM G J_X4_doublesOwnBody yX4_doublesOwnBody [.ref (G.2.1 0), .int a1] μ (oI t) :=
  gm_of (J := J_X4_doublesOwnBody) (k := kI) rfl (by decide) (Nat.le_of_ble_eq_true rfl) (v_X4_doublesOwnBody G a1 μ) ht rfl
set_option maxRecDepth 100000 in
set_option maxHeartbeats 4000000 in
theorem v_X4_read (G : GG) (a1 : Int32) (μ : Mem) : V G J_X4_read 0 [(0, .ref (G.2.1 0)), (1, .int a1)] [] μ (f_X4_read a1 μ) kI := by
  rw [f_X4_read]
  refine v_aload_n (n := 1) dX4_read_0 rfl 0 rfl rfl ?_
  refine v_getR (n := 4) (i := 1) (q2 := 2) dX4_read_1 (show isO 0 4 from rfl) rfl fg_X4_20 rfl ?_
  refine v_iload_n (n := 5) dX4_read_4 rfl 1 rfl rfl ?_
  refine v_cVi (n := 8) (st := []) [.int a1] dX4_read_5 (fun t ht => M_X1_hasLeft G 2 (show isO 2 1 from rfl) a1 μ t ht) cal_X1_hasLeft mw89 (show isO 2 1 from rfl) rfl rfl (Nat.le_of_ble_eq_true rfl) ⟨Nat.le_of_ble_eq_true rfl, Nat.le_of_ble_eq_true rfl⟩ rfl (fun x2 μ1 => ?_)
  refine v_if_ne (tgt := 13) (n := 11) dX4_read_8 (by decide) rfl ?_ ?_
  · refine v_iconst (n := 12) (v := -1) dX4_read_11 ci_m1 rfl ?_
    exact v_iret dX4_read_12 rfl rfl
  · refine v_aload_n (n := 14) dX4_read_13 rfl 0 rfl rfl ?_
    refine v_getR (n := 17) (i := 1) (q2 := 2) dX4_read_14 (show isO 0 4 from rfl) rfl fg_X4_20 rfl ?_
    refine v_getR (n := 20) (i := 0) (q2 := 3) dX4_read_17 (show isO 2 1 from rfl) rfl fg_X4_98 rfl ?_
    refine v_iload_n (n := 21) dX4_read_20 rfl 1 rfl rfl ?_
    refine v_iald (n := 22) dX4_read_21 (show isA 3 7 from rfl) rfl ?_
    refine v_iconst (n := 23) (v := 2) dX4_read_22 ci_2 rfl ?_
    refine v_icmp_ne (tgt := 34) (n := 26) dX4_read_23 (by decide) rfl ?_ ?_
    · refine v_aload_n (n := 27) dX4_read_26 rfl 0 rfl rfl ?_
      refine v_iload_n (n := 28) dX4_read_27 rfl 1 rfl rfl ?_
      refine v_cVi (n := 31) (st := []) [.int a1] dX4_read_28 (fun t ht => M_X4_doublesOwnBody G a1 μ1 t ht) cal_X4_doublesOwnBody mw145 (show isO 0 4 from rfl) rfl rfl (Nat.le_of_ble_eq_true rfl) ⟨Nat.le_of_ble_eq_true rfl, Nat.le_of_ble_eq_true rfl⟩ rfl (fun x6 μ5 => ?_)
      refine v_goto (tgt := 39) dX4_read_31 (by decide) ?_
      exact v_iret dX4_read_39 rfl rfl
    · refine v_aload_n (n := 35) dX4_read_34 rfl 0 rfl rfl ?_
      refine v_iload_n (n := 36) dX4_read_35 rfl 1 rfl rfl ?_
      refine v_cVi (n := 39) (st := []) [.int a1] dX4_read_36 (fun t ht => M_X4_lentBody G a1 μ1 t ht) cal_X4_lentBody mw144 (show isO 0 4 from rfl) rfl rfl (Nat.le_of_ble_eq_true rfl) ⟨Nat.le_of_ble_eq_true rfl, Nat.le_of_ble_eq_true rfl⟩ rfl (fun x4 μ3 => ?_)
      exact v_iret dX4_read_39 rfl rfl
theorem M_X4_read (G : GG) (a1 : Int32) (μ : Mem) (t : Int32 × Mem) (ht : f_X4_read a1 μ = some t) : GM G J_X4_read yX4_read [.ref (G.2.1 0), .int a1] μ (oI t) :=
  gm_of (J := J_X4_read) (k := kI) rfl (by decide) (Nat.le_of_ble_eq_true rfl) (v_X4_read G a1 μ) ht rfl
set_option maxRecDepth 100000 in
set_option maxHeartbeats 4000000 in
theorem v_X4_as (G : GG) (a1 : Int32) (a2 : Int32) (μ : Mem) : V G J_X4_as 0 [(0, .ref (G.2.1 0)), (1, .int a1), (2, .int a2)] [] μ (f_X4_as a1 a2 μ) kI := by
  rw [f_X4_as]
  refine v_aload_n (n := 1) dX4_as_0 rfl 0 rfl rfl ?_
  refine v_iconst (n := 2) (v := 0) dX4_as_1 ci_0 rfl ?_
  refine v_put (n := 5) (i := 11) dX4_as_2 (show isO 0 4 from rfl) rfl fp_X4_52 rfl rfl rfl ?_
  refine v_lm (fun μ1 => ?_)
  refine v_aload_n (n := 6) dX4_as_5 rfl 0 rfl rfl ?_
  refine v_getR (n := 9) (i := 1) (q2 := 2) dX4_as_6 (show isO 0 4 from rfl) rfl fg_X4_20 rfl ?_
  refine v_iload_n (n := 10) dX4_as_9 rfl 1 rfl rfl ?_
  refine v_cVi (n := 13) (st := []) [.int a1] dX4_as_10 (fun t ht => M_X1_hasLeft G 2 (show isO 2 1 from rfl) a1 μ1 t ht) cal_X1_hasLeft mw89 (show isO 2 1 from rfl) rfl rfl (Nat.le_of_ble_eq_true rfl) ⟨Nat.le_of_ble_eq_true rfl, Nat.le_of_ble_eq_true rfl⟩ rfl (fun x3 μ2 => ?_)
  refine v_if_ne (tgt := 18) (n := 16) dX4_as_13 (by decide) rfl ?_ ?_
  · refine v_iconst (n := 17) (v := -1) dX4_as_16 ci_m1 rfl ?_
    exact v_iret dX4_as_17 rfl rfl
  · refine v_iload_n (n := 19) dX4_as_18 rfl 2 rfl rfl ?_
    refine v_if_lt (tgt := 27) (n := 22) dX4_as_19 (by decide) rfl ?_ ?_
    · refine v_bipush (n := 29) (v := -2) dX4_as_27 cb_m2 rfl ?_
      exact v_iret dX4_as_29 rfl rfl
    · refine v_iload_n (n := 23) dX4_as_22 rfl 2 rfl rfl ?_
      refine v_iconst (n := 24) (v := 2) dX4_as_23 ci_2 rfl ?_
      refine v_icmp_le (tgt := 30) (n := 27) dX4_as_24 (by decide) rfl ?_ ?_
      · refine v_aload_n (n := 31) dX4_as_30 rfl 0 rfl rfl ?_
        refine v_getR (n := 34) (i := 1) (q2 := 2) dX4_as_31 (show isO 0 4 from rfl) rfl fg_X4_20 rfl ?_
        refine v_getR (n := 37) (i := 0) (q2 := 3) dX4_as_34 (show isO 2 1 from rfl) rfl fg_X4_98 rfl ?_
        refine v_iload_n (n := 38) dX4_as_37 rfl 1 rfl rfl ?_
        refine v_iald (n := 39) dX4_as_38 (show isA 3 7 from rfl) rfl ?_
        refine v_iload_n (n := 40) dX4_as_39 rfl 2 rfl rfl ?_
        refine v_icmp_lt (tgt := 47) (n := 43) dX4_as_40 (by decide) rfl ?_ ?_
        · refine v_aload_n (n := 48) dX4_as_47 rfl 0 rfl rfl ?_
          refine v_iconst (n := 49) (v := 2) dX4_as_48 ci_2 rfl ?_
          refine v_cVi (n := 52) (st := []) [.int (2 : Int32)] dX4_as_49 (fun t ht => M_X4_failed G (2 : Int32) μ2 t ht) cal_X4_failed mw47 (show isO 0 4 from rfl) rfl rfl (Nat.le_of_ble_eq_true rfl) ⟨Nat.le_of_ble_eq_true rfl, Nat.le_of_ble_eq_true rfl⟩ rfl (fun x5 μ4 => ?_)
          exact v_iret dX4_as_52 rfl rfl
        · refine v_iconst (n := 44) (v := 1) dX4_as_43 ci_1 rfl ?_
          refine v_goto (tgt := 52) dX4_as_44 (by decide) ?_
          exact v_iret dX4_as_52 rfl rfl
      · refine v_bipush (n := 29) (v := -2) dX4_as_27 cb_m2 rfl ?_
        exact v_iret dX4_as_29 rfl rfl
theorem M_X4_as (G : GG) (a1 : Int32) (a2 : Int32) (μ : Mem) (t : Int32 × Mem) (ht : f_X4_as a1 a2 μ = some t) : GM G J_X4_as yX4_as [.ref (G.2.1 0), .int a1, .int a2] μ (oI t) :=
  gm_of (J := J_X4_as) (k := kI) rfl (by decide) (Nat.le_of_ble_eq_true rfl) (v_X4_as G a1 a2 μ) ht rfl
set_option maxRecDepth 100000 in
set_option maxHeartbeats 4000000 in
theorem v_X4_trace (G : GG) (μ : Mem) : V G J_X4_trace 0 [(0, .ref (G.2.1 0))] [] μ (f_X4_trace μ) kI := by
  rw [f_X4_trace]
  refine v_aload_n (n := 1) dX4_trace_0 rfl 0 rfl rfl ?_
  refine v_getI (n := 4) (i := 10) dX4_trace_1 (show isO 0 4 from rfl) rfl fg_X4_247 rfl ?_
  exact v_iret dX4_trace_4 rfl rfl
theorem M_X4_trace (G : GG) (μ : Mem) (t : Int32 × Mem) (ht : f_X4_trace μ = some t) : GM G J_X4_trace yX4_trace [.ref (G.2.1 0)] μ (oI t) :=
  gm_of (J := J_X4_trace) (k := kI) rfl (by decide) (Nat.le_of_ble_eq_true rfl) (v_X4_trace G μ) ht rfl
set_option maxRecDepth 100000 in
set_option maxHeartbeats 4000000 in
theorem v_X4_fault (G : GG) (μ : Mem) : V G J_X4_fault 0 [(0, .ref (G.2.1 0))] [] μ (f_X4_fault μ) kI := by
  rw [f_X4_fault]
  refine v_aload_n (n := 1) dX4_fault_0 rfl 0 rfl rfl ?_
  refine v_getI (n := 4) (i := 11) dX4_fault_1 (show isO 0 4 from rfl) rfl fg_X4_52 rfl ?_
  exact v_iret dX4_fault_4 rfl rfl
theorem M_X4_fault (G : GG) (μ : Mem) (t : Int32 × Mem) (ht : f_X4_fault μ = some t) : GM G J_X4_fault yX4_fault [.ref (G.2.1 0)] μ (oI t) :=
  gm_of (J := J_X4_fault) (k := kI) rfl (by decide) (Nat.le_of_ble_eq_true rfl) (v_X4_fault G μ) ht rfl
set_option maxRecDepth 100000 in
set_option maxHeartbeats 4000000 in
theorem v_X4_many (G : GG) (a1 : Int32) (μ : Mem) : V G J_X4_many 0 [(0, .ref (G.2.1 0)), (1, .int a1)] [] μ (f_X4_many a1 μ) kI := by
  rw [f_X4_many]
  refine v_iload_n (n := 1) dX4_many_0 rfl 1 rfl rfl ?_
  refine v_swif ?_ (fun hs0 => ?_)
  · refine v_tblI (tgt := 40) dX4_many_1 (by decide) (by decide) rfl (by decide) ?_
    refine v_aload_n (n := 41) dX4_many_40 rfl 0 rfl rfl ?_
    refine v_getR (n := 44) (i := 1) (q2 := 2) dX4_many_41 (show isO 0 4 from rfl) rfl fg_X4_20 rfl ?_
    refine v_getI (n := 47) (i := 5) dX4_many_44 (show isO 2 1 from rfl) rfl fg_X4_89 rfl ?_
    exact v_iret dX4_many_47 rfl rfl
  refine v_swif ?_ (fun hs1 => ?_)
  · refine v_tblI (tgt := 48) dX4_many_1 (by decide) (by decide) rfl (by decide) ?_
    refine v_aload_n (n := 49) dX4_many_48 rfl 0 rfl rfl ?_
    refine v_getR (n := 52) (i := 1) (q2 := 2) dX4_many_49 (show isO 0 4 from rfl) rfl fg_X4_20 rfl ?_
    refine v_getI (n := 55) (i := 6) dX4_many_52 (show isO 2 1 from rfl) rfl fg_X4_92 rfl ?_
    exact v_iret dX4_many_55 rfl rfl
  refine v_swif ?_ (fun hs2 => ?_)
  · refine v_tblI (tgt := 56) dX4_many_1 (by decide) (by decide) rfl (by decide) ?_
    refine v_aload_n (n := 57) dX4_many_56 rfl 0 rfl rfl ?_
    refine v_getR (n := 60) (i := 1) (q2 := 2) dX4_many_57 (show isO 0 4 from rfl) rfl fg_X4_20 rfl ?_
    refine v_getI (n := 63) (i := 7) dX4_many_60 (show isO 2 1 from rfl) rfl fg_X4_250 rfl ?_
    exact v_iret dX4_many_63 rfl rfl
  refine v_swif ?_ (fun hs3 => ?_)
  · refine v_tblI (tgt := 64) dX4_many_1 (by decide) (by decide) rfl (by decide) ?_
    refine v_aload_n (n := 65) dX4_many_64 rfl 0 rfl rfl ?_
    refine v_getR (n := 68) (i := 1) (q2 := 2) dX4_many_65 (show isO 0 4 from rfl) rfl fg_X4_20 rfl ?_
    refine v_getI (n := 71) (i := 8) dX4_many_68 (show isO 2 1 from rfl) rfl fg_X4_253 rfl ?_
    exact v_iret dX4_many_71 rfl rfl
  refine v_swif ?_ (fun hs4 => ?_)
  · refine v_tblI (tgt := 72) dX4_many_1 (by decide) (by decide) rfl (by decide) ?_
    refine v_aload_n (n := 73) dX4_many_72 rfl 0 rfl rfl ?_
    refine v_getR (n := 76) (i := 1) (q2 := 2) dX4_many_73 (show isO 0 4 from rfl) rfl fg_X4_20 rfl ?_
    refine v_getI (n := 79) (i := 9) dX4_many_76 (show isO 2 1 from rfl) rfl fg_X4_256 rfl ?_
    exact v_iret dX4_many_79 rfl rfl
  refine v_swif ?_ (fun hs5 => ?_)
  · refine v_tblI (tgt := 80) dX4_many_1 (by decide) (by decide) rfl (by decide) ?_
    refine v_aload_n (n := 81) dX4_many_80 rfl 0 rfl rfl ?_
    refine v_getI (n := 84) (i := 8) dX4_many_81 (show isO 0 4 from rfl) rfl fg_X4_82 rfl ?_
    exact v_iret dX4_many_84 rfl rfl
  refine v_tblO (tgt := 85) dX4_many_1 (by have hs0 := lv_neT hs0 (by decide : (0 : Int32).toInt = 0); have hs1 := lv_neT hs1 (by decide : (1 : Int32).toInt = 1); have hs2 := lv_neT hs2 (by decide : (2 : Int32).toInt = 2); have hs3 := lv_neT hs3 (by decide : (3 : Int32).toInt = 3); have hs4 := lv_neT hs4 (by decide : (4 : Int32).toInt = 4); have hs5 := lv_neT hs5 (by decide : (5 : Int32).toInt = 5); omega) (by decide) ?_
  refine v_bipush (n := 87) (v := -2) dX4_many_85 cb_m2 rfl ?_
  exact v_iret dX4_many_87 rfl rfl
theorem M_X4_many (G : GG) (a1 : Int32) (μ : Mem) (t : Int32 × Mem) (ht : f_X4_many a1 μ = some t) : GM G J_X4_many yX4_many [.ref (G.2.1 0), .int a1] μ (oI t) :=
  gm_of (J := J_X4_many) (k := kI) rfl (by decide) (Nat.le_of_ble_eq_true rfl) (v_X4_many G a1 μ) ht rfl
set_option maxRecDepth 100000 in
set_option maxHeartbeats 4000000 in
theorem v_X5_fails (G : GG) (a1 : Int32) (μ : Mem) : V G J_X5_fails 0 [(0, .ref (G.2.1 43)), (1, .int a1)] [] μ (f_X5_fails a1 μ) kI := by
  rw [f_X5_fails]
  refine v_aload_n (n := 1) dX5_fails_0 rfl 0 rfl rfl ?_
  refine v_iload_n (n := 2) dX5_fails_1 rfl 1 rfl rfl ?_
  refine v_put (n := 5) (i := 0) dX5_fails_2 (show isO 43 5 from rfl) rfl fp_X5_70 rfl rfl rfl ?_
  refine v_lm (fun μ1 => ?_)
  refine v_bipush (n := 7) (v := -10) dX5_fails_5 cb_m10 rfl ?_
  refine v_iload_n (n := 8) dX5_fails_7 rfl 1 rfl rfl ?_
  refine v_isub (n := 9) dX5_fails_8 rfl ?_
  exact v_iret dX5_fails_9 rfl rfl
theorem M_X5_fails (G : GG) (a1 : Int32) (μ : Mem) (t : Int32 × Mem) (ht : f_X5_fails a1 μ = some t) : GM G J_X5_fails yX5_fails [.ref (G.2.1 43), .int a1] μ (oI t) :=
  gm_of (J := J_X5_fails) (k := kI) rfl (by decide) (Nat.le_of_ble_eq_true rfl) (v_X5_fails G a1 μ) ht rfl
set_option maxRecDepth 100000 in
set_option maxHeartbeats 4000000 in
theorem v_X5_lost (G : GG) (a1 : Int32) (μ : Mem) : V G J_X5_lost 0 [(0, .ref (G.2.1 43)), (1, .int a1)] [] μ (f_X5_lost a1 μ) kL := by
  rw [f_X5_lost]
  refine v_aload_n (n := 1) dX5_lost_0 rfl 0 rfl rfl ?_
  refine v_iload_n (n := 2) dX5_lost_1 rfl 1 rfl rfl ?_
  refine v_put (n := 5) (i := 0) dX5_lost_2 (show isO 43 5 from rfl) rfl fp_X5_70 rfl rfl rfl ?_
  refine v_lm (fun μ1 => ?_)
  refine v_ldc2 (n := 8) (v := -9223372036854775808) dX5_lost_5 mw150 rfl ?_
  exact v_lret dX5_lost_8 rfl rfl
theorem M_X5_lost (G : GG) (a1 : Int32) (μ : Mem) (t : Int64 × Mem) (ht : f_X5_lost a1 μ = some t) : GM G J_X5_lost yX5_lost [.ref (G.2.1 43), .int a1] μ (oL t) :=
  gm_of (J := J_X5_lost) (k := kL) rfl (by decide) (Nat.le_of_ble_eq_true rfl) (v_X5_lost G a1 μ) ht rfl
set_option maxRecDepth 100000 in
set_option maxHeartbeats 4000000 in
theorem v_X5_within (G : GG) (a0 : Int32) (a1 : Int32) (a2 : Int32) (μ : Mem) : V G J_X5_within 0 [(0, .int a0), (1, .int a1), (2, .int a2)] [] μ (f_X5_within a0 a1 a2 μ) kI := by
  rw [f_X5_within]
  refine v_iload_n (n := 1) dX5_within_0 rfl 0 rfl rfl ?_
  refine v_iload_n (n := 2) dX5_within_1 rfl 1 rfl rfl ?_
  refine v_icmp_lt (tgt := 14) (n := 5) dX5_within_2 (by decide) rfl ?_ ?_
  · refine v_iconst (n := 15) (v := 0) dX5_within_14 ci_0 rfl ?_
    exact v_zret dX5_within_15 rfl (by decide) rfl
  · refine v_iload_n (n := 6) dX5_within_5 rfl 0 rfl rfl ?_
    refine v_iload_n (n := 7) dX5_within_6 rfl 2 rfl rfl ?_
    refine v_icmp_gt (tgt := 14) (n := 10) dX5_within_7 (by decide) rfl ?_ ?_
    · refine v_iconst (n := 15) (v := 0) dX5_within_14 ci_0 rfl ?_
      exact v_zret dX5_within_15 rfl (by decide) rfl
    · refine v_iconst (n := 11) (v := 1) dX5_within_10 ci_1 rfl ?_
      refine v_goto (tgt := 15) dX5_within_11 (by decide) ?_
      exact v_zret dX5_within_15 rfl (by decide) rfl
theorem M_X5_within (G : GG) (a0 : Int32) (a1 : Int32) (a2 : Int32) (μ : Mem) (t : Int32 × Mem) (ht : f_X5_within a0 a1 a2 μ = some t) : GM G J_X5_within yX5_within [.int a0, .int a1, .int a2] μ (oI t) :=
  gm_of (J := J_X5_within) (k := kI) rfl (by decide) (Nat.le_of_ble_eq_true rfl) (v_X5_within G a0 a1 a2 μ) ht rfl
set_option maxRecDepth 100000 in
set_option maxHeartbeats 4000000 in
theorem v_X5_isSheet (G : GG) (a0 : Int32) (μ : Mem) : V G J_X5_isSheet 0 [(0, .int a0)] [] μ (f_X5_isSheet a0 μ) kI := by
  rw [f_X5_isSheet]
  refine v_iload_n (n := 1) dX5_isSheet_0 rfl 0 rfl rfl ?_
  refine v_iconst (n := 2) (v := 0) dX5_isSheet_1 ci_0 rfl ?_
  refine v_iconst (n := 3) (v := 3) dX5_isSheet_2 ci_3 rfl ?_
  refine v_cSi (n := 6) (st := []) [.int a0, .int (0 : Int32), .int (3 : Int32)] dX5_isSheet_3 (fun t ht => M_X5_within G a0 (0 : Int32) (3 : Int32) μ t ht) cal_X5_within mw151 rfl rfl (Nat.le_of_ble_eq_true rfl) ⟨Nat.le_of_ble_eq_true rfl, Nat.le_of_ble_eq_true rfl⟩ rfl (fun x2 μ1 => ?_)
  exact v_zretV dX5_isSheet_6 rfl rfl
theorem M_X5_isSheet (G : GG) (a0 : Int32) (μ : Mem) (t : Int32 × Mem) (ht : f_X5_isSheet a0 μ = some t) : GM G J_X5_isSheet yX5_isSheet [.int a0] μ (oI t) :=
  gm_of (J := J_X5_isSheet) (k := kI) rfl (by decide) (Nat.le_of_ble_eq_true rfl) (v_X5_isSheet G a0 μ) ht rfl
set_option maxRecDepth 100000 in
set_option maxHeartbeats 4000000 in
theorem v_X5_isSort (G : GG) (a0 : Int32) (μ : Mem) : V G J_X5_isSort 0 [(0, .int a0)] [] μ (f_X5_isSort a0 μ) kI := by
  rw [f_X5_isSort]
  refine v_iload_n (n := 1) dX5_isSort_0 rfl 0 rfl rfl ?_
  refine v_iconst (n := 2) (v := 0) dX5_isSort_1 ci_0 rfl ?_
  refine v_iconst (n := 3) (v := 2) dX5_isSort_2 ci_2 rfl ?_
  refine v_cSi (n := 6) (st := []) [.int a0, .int (0 : Int32), .int (2 : Int32)] dX5_isSort_3 (fun t ht => M_X5_within G a0 (0 : Int32) (2 : Int32) μ t ht) cal_X5_within mw151 rfl rfl (Nat.le_of_ble_eq_true rfl) ⟨Nat.le_of_ble_eq_true rfl, Nat.le_of_ble_eq_true rfl⟩ rfl (fun x2 μ1 => ?_)
  exact v_zretV dX5_isSort_6 rfl rfl
theorem M_X5_isSort (G : GG) (a0 : Int32) (μ : Mem) (t : Int32 × Mem) (ht : f_X5_isSort a0 μ = some t) : GM G J_X5_isSort yX5_isSort [.int a0] μ (oI t) :=
  gm_of (J := J_X5_isSort) (k := kI) rfl (by decide) (Nat.le_of_ble_eq_true rfl) (v_X5_isSort G a0 μ) ht rfl
set_option maxRecDepth 100000 in
set_option maxHeartbeats 4000000 in
theorem vjn_X5_against_23 (G : GG) (x1v : Int32) (x3v : Int32) (x4v : Int32) (μ : Mem) : V G J_X5_against 23 [(0, .ref (G.2.1 43)), (1, .int x1v), (3, .int x3v), (4, .int x4v)] [] μ (jn_X5_against_23 x1v x3v x4v μ) kI := by
  rw [jn_X5_against_23]
  refine v_aload_n (n := 24) dX5_against_23 rfl 0 rfl rfl ?_
  refine v_getR (n := 27) (i := 2) (q2 := 44) dX5_against_24 (show isO 43 5 from rfl) rfl fg_X5_9 rfl ?_
  refine v_iload_n (n := 28) dX5_against_27 rfl 1 rfl rfl ?_
  refine v_iald (n := 29) dX5_against_28 (show isA 44 4 from rfl) rfl ?_
  refine v_bipush (n := 31) (v := -9) dX5_against_29 cb_m9 rfl ?_
  refine v_icmp_ne (tgt := 36) (n := 34) dX5_against_31 (by decide) rfl ?_ ?_
  · refine v_iconst (n := 35) (v := 1) dX5_against_34 ci_1 rfl ?_
    exact v_iret dX5_against_35 rfl rfl
  · refine v_iload (n := 38) dX5_against_36 3 rfl rfl ?_
    refine v_if_ge (tgt := 43) (n := 41) dX5_against_38 (by decide) rfl ?_ ?_
    · refine v_iload_n (n := 44) dX5_against_43 rfl 2 rfl rfl ?_
      refine v_if_lt (tgt := 70) (n := 47) dX5_against_44 (by decide) rfl ?_ ?_
      · refine v_iconst (n := 71) (v := 3) dX5_against_70 ci_3 rfl ?_
        refine v_goto (tgt := 75) dX5_against_71 (by decide) ?_
        exact v_iret dX5_against_75 rfl rfl
      · refine v_iload_n (n := 48) dX5_against_47 rfl 2 rfl rfl ?_
        refine v_aload_n (n := 49) dX5_against_48 rfl 0 rfl rfl ?_
        refine v_getR (n := 52) (i := 3) (q2 := 45) dX5_against_49 (show isO 43 5 from rfl) rfl fg_X5_13 rfl ?_
        refine v_iload_n (n := 53) dX5_against_52 rfl 1 rfl rfl ?_
        refine v_iald (n := 54) dX5_against_53 (show isA 45 4 from rfl) rfl ?_
        refine v_icmp_gt (tgt := 70) (n := 57) dX5_against_54 (by decide) rfl ?_ ?_
        · refine v_iconst (n := 71) (v := 3) dX5_against_70 ci_3 rfl ?_
          refine v_goto (tgt := 75) dX5_against_71 (by decide) ?_
          exact v_iret dX5_against_75 rfl rfl
        · refine v_iload (n := 59) dX5_against_57 3 rfl rfl ?_
          refine v_aload_n (n := 60) dX5_against_59 rfl 0 rfl rfl ?_
          refine v_getR (n := 63) (i := 3) (q2 := 45) dX5_against_60 (show isO 43 5 from rfl) rfl fg_X5_13 rfl ?_
          refine v_iload_n (n := 64) dX5_against_63 rfl 1 rfl rfl ?_
          refine v_iald (n := 65) dX5_against_64 (show isA 45 4 from rfl) rfl ?_
          refine v_iload_n (n := 66) dX5_against_65 rfl 2 rfl rfl ?_
          refine v_isub (n := 67) dX5_against_66 rfl ?_
          refine v_icmp_le (tgt := 74) (n := 70) dX5_against_67 (by decide) rfl ?_ ?_
          · refine v_iconst (n := 75) (v := 0) dX5_against_74 ci_0 rfl ?_
            exact v_iret dX5_against_75 rfl rfl
          · refine v_iconst (n := 71) (v := 3) dX5_against_70 ci_3 rfl ?_
            refine v_goto (tgt := 75) dX5_against_71 (by decide) ?_
            exact v_iret dX5_against_75 rfl rfl
    · refine v_iconst (n := 42) (v := 4) dX5_against_41 ci_4 rfl ?_
      exact v_iret dX5_against_42 rfl rfl
set_option maxRecDepth 100000 in
set_option maxHeartbeats 4000000 in
theorem v_X5_against (G : GG) (a1 : Int32) (a2 : Int32) (a3 : Int32) (a4 : Int32) (μ : Mem) : V G J_X5_against 0 [(0, .ref (G.2.1 43)), (1, .int a1), (2, .int a2), (3, .int a3), (4, .int a4)] [] μ (f_X5_against a1 a2 a3 a4 μ) kI := by
  rw [f_X5_against]
  refine v_aload_n (n := 1) dX5_against_0 rfl 0 rfl rfl ?_
  refine v_getR (n := 4) (i := 2) (q2 := 44) dX5_against_1 (show isO 43 5 from rfl) rfl fg_X5_9 rfl ?_
  refine v_iload_n (n := 5) dX5_against_4 rfl 1 rfl rfl ?_
  refine v_iald (n := 6) dX5_against_5 (show isA 44 4 from rfl) rfl ?_
  refine v_bipush (n := 8) (v := -9) dX5_against_6 cb_m9 rfl ?_
  refine v_icmp_eq (tgt := 23) (n := 11) dX5_against_8 (by decide) rfl ?_ ?_
  · exact v_sub [0, 1, 3, 4] rfl (vjn_X5_against_23 G a1 a3 a4 μ)
  · refine v_aload_n (n := 12) dX5_against_11 rfl 0 rfl rfl ?_
    refine v_getR (n := 15) (i := 2) (q2 := 44) dX5_against_12 (show isO 43 5 from rfl) rfl fg_X5_9 rfl ?_
    refine v_iload_n (n := 16) dX5_against_15 rfl 1 rfl rfl ?_
    refine v_iald (n := 17) dX5_against_16 (show isA 44 4 from rfl) rfl ?_
    refine v_iload_n (n := 18) dX5_against_17 rfl 2 rfl rfl ?_
    refine v_icmp_eq (tgt := 23) (n := 21) dX5_against_18 (by decide) rfl ?_ ?_
    · exact v_sub [0, 1, 3, 4] rfl (vjn_X5_against_23 G a1 a3 a4 μ)
    · refine v_iconst (n := 22) (v := 2) dX5_against_21 ci_2 rfl ?_
      exact v_iret dX5_against_22 rfl rfl
theorem M_X5_against (G : GG) (a1 : Int32) (a2 : Int32) (a3 : Int32) (a4 : Int32) (μ : Mem) (t : Int32 × Mem) (ht : f_X5_against a1 a2 a3 a4 μ = some t) : GM G J_X5_against yX5_against [.ref (G.2.1 43), .int a1, .int a2, .int a3, .int a4] μ (oI t) :=
  gm_of (J := J_X5_against) (k := kI) rfl (by decide) (Nat.le_of_ble_eq_true rfl) (v_X5_against G a1 a2 a3 a4 μ) ht rfl
set_option maxRecDepth 100000 in
set_option maxHeartbeats 4000000 in
theorem v_X5_isLeft (G : GG) (a1 : Int32) (μ : Mem) : V G J_X5_isLeft 0 [(0, .ref (G.2.1 43)), (1, .int a1)] [] μ (f_X5_isLeft a1 μ) kI := by
  rw [f_X5_isLeft]
  refine v_iload_n (n := 1) dX5_isLeft_0 rfl 1 rfl rfl ?_
  refine v_if_lt (tgt := 16) (n := 4) dX5_isLeft_1 (by decide) rfl ?_ ?_
  · refine v_iconst (n := 17) (v := 0) dX5_isLeft_16 ci_0 rfl ?_
    exact v_zret dX5_isLeft_17 rfl (by decide) rfl
  · refine v_iload_n (n := 5) dX5_isLeft_4 rfl 1 rfl rfl ?_
    refine v_aload_n (n := 6) dX5_isLeft_5 rfl 0 rfl rfl ?_
    refine v_getI (n := 9) (i := 5) dX5_isLeft_6 (show isO 43 5 from rfl) rfl fg_X5_80 rfl ?_
    refine v_icmp_ge (tgt := 16) (n := 12) dX5_isLeft_9 (by decide) rfl ?_ ?_
    · refine v_iconst (n := 17) (v := 0) dX5_isLeft_16 ci_0 rfl ?_
      exact v_zret dX5_isLeft_17 rfl (by decide) rfl
    · refine v_iconst (n := 13) (v := 1) dX5_isLeft_12 ci_1 rfl ?_
      refine v_goto (tgt := 17) dX5_isLeft_13 (by decide) ?_
      exact v_zret dX5_isLeft_17 rfl (by decide) rfl
theorem M_X5_isLeft (G : GG) (a1 : Int32) (μ : Mem) (t : Int32 × Mem) (ht : f_X5_isLeft a1 μ = some t) : GM G J_X5_isLeft yX5_isLeft [.ref (G.2.1 43), .int a1] μ (oI t) :=
  gm_of (J := J_X5_isLeft) (k := kI) rfl (by decide) (Nat.le_of_ble_eq_true rfl) (v_X5_isLeft G a1 μ) ht rfl
set_option maxRecDepth 100000 in
set_option maxHeartbeats 4000000 in
theorem v_X5_isRight (G : GG) (a1 : Int32) (μ : Mem) : V G J_X5_isRight 0 [(0, .ref (G.2.1 43)), (1, .int a1)] [] μ (f_X5_isRight a1 μ) kI := by
  rw [f_X5_isRight]
  refine v_iload_n (n := 1) dX5_isRight_0 rfl 1 rfl rfl ?_
  refine v_if_lt (tgt := 16) (n := 4) dX5_isRight_1 (by decide) rfl ?_ ?_
  · refine v_iconst (n := 17) (v := 0) dX5_isRight_16 ci_0 rfl ?_
    exact v_zret dX5_isRight_17 rfl (by decide) rfl
  · refine v_iload_n (n := 5) dX5_isRight_4 rfl 1 rfl rfl ?_
    refine v_aload_n (n := 6) dX5_isRight_5 rfl 0 rfl rfl ?_
    refine v_getI (n := 9) (i := 6) dX5_isRight_6 (show isO 43 5 from rfl) rfl fg_X5_83 rfl ?_
    refine v_icmp_ge (tgt := 16) (n := 12) dX5_isRight_9 (by decide) rfl ?_ ?_
    · refine v_iconst (n := 17) (v := 0) dX5_isRight_16 ci_0 rfl ?_
      exact v_zret dX5_isRight_17 rfl (by decide) rfl
    · refine v_iconst (n := 13) (v := 1) dX5_isRight_12 ci_1 rfl ?_
      refine v_goto (tgt := 17) dX5_isRight_13 (by decide) ?_
      exact v_zret dX5_isRight_17 rfl (by decide) rfl
theorem M_X5_isRight (G : GG) (a1 : Int32) (μ : Mem) (t : Int32 × Mem) (ht : f_X5_isRight a1 μ = some t) : GM G J_X5_isRight yX5_isRight [.ref (G.2.1 43), .int a1] μ (oI t) :=
  gm_of (J := J_X5_isRight) (k := kI) rfl (by decide) (Nat.le_of_ble_eq_true rfl) (v_X5_isRight G a1 μ) ht rfl
set_option maxRecDepth 100000 in
set_option maxHeartbeats 4000000 in
theorem v_X5_isSign (G : GG) (a1 : Int32) (a2 : Int32) (μ : Mem) : V G J_X5_isSign 0 [(0, .ref (G.2.1 43)), (1, .int a1), (2, .int a2)] [] μ (f_X5_isSign a1 a2 μ) kI := by
  rw [f_X5_isSign]
  refine v_aload_n (n := 1) dX5_isSign_0 rfl 0 rfl rfl ?_
  refine v_getI (n := 4) (i := 15) dX5_isSign_1 (show isO 43 5 from rfl) rfl fg_X5_86 rfl ?_
  refine v_iload_n (n := 5) dX5_isSign_4 rfl 1 rfl rfl ?_
  refine v_icmp_ge (tgt := 21) (n := 8) dX5_isSign_5 (by decide) rfl ?_ ?_
  · refine v_iconst (n := 22) (v := 0) dX5_isSign_21 ci_0 rfl ?_
    exact v_zret dX5_isSign_22 rfl (by decide) rfl
  · refine v_aload_n (n := 9) dX5_isSign_8 rfl 0 rfl rfl ?_
    refine v_getR (n := 12) (i := 4) (q2 := 46) dX5_isSign_9 (show isO 43 5 from rfl) rfl fg_X5_16 rfl ?_
    refine v_aload_n (n := 13) dX5_isSign_12 rfl 0 rfl rfl ?_
    refine v_getI (n := 16) (i := 15) dX5_isSign_13 (show isO 43 5 from rfl) rfl fg_X5_86 rfl ?_
    refine v_iald (n := 17) dX5_isSign_16 (show isA 46 240 from rfl) rfl ?_
    refine v_iload_n (n := 18) dX5_isSign_17 rfl 2 rfl rfl ?_
    refine v_icmp_eq (tgt := 23) (n := 21) dX5_isSign_18 (by decide) rfl ?_ ?_
    · refine v_aload_n (n := 24) dX5_isSign_23 rfl 0 rfl rfl ?_
      refine v_dup (n := 25) dX5_isSign_24 rfl rfl ?_
      refine v_getI (n := 28) (i := 15) dX5_isSign_25 (show isO 43 5 from rfl) rfl fg_X5_86 rfl ?_
      refine v_iconst (n := 29) (v := 1) dX5_isSign_28 ci_1 rfl ?_
      refine v_iadd (n := 30) dX5_isSign_29 rfl ?_
      refine v_put (n := 33) (i := 15) dX5_isSign_30 (show isO 43 5 from rfl) rfl fp_X5_86 rfl rfl rfl ?_
      refine v_lm (fun μ1 => ?_)
      refine v_iconst (n := 34) (v := 1) dX5_isSign_33 ci_1 rfl ?_
      exact v_zret dX5_isSign_34 rfl (by decide) rfl
    · refine v_iconst (n := 22) (v := 0) dX5_isSign_21 ci_0 rfl ?_
      exact v_zret dX5_isSign_22 rfl (by decide) rfl
theorem M_X5_isSign (G : GG) (a1 : Int32) (a2 : Int32) (μ : Mem) (t : Int32 × Mem) (ht : f_X5_isSign a1 a2 μ = some t) : GM G J_X5_isSign yX5_isSign [.ref (G.2.1 43), .int a1, .int a2] μ (oI t) :=
  gm_of (J := J_X5_isSign) (k := kI) rfl (by decide) (Nat.le_of_ble_eq_true rfl) (v_X5_isSign G a1 a2 μ) ht rfl
set_option maxRecDepth 100000 in
set_option maxHeartbeats 4000000 in
theorem vjn_X5_readKindNext_21 (G : GG) (s0v : Int32) (μ : Mem) : V G J_X5_readKindNext 21 [(0, .ref (G.2.1 43))] [.int s0v] μ (jn_X5_readKindNext_21 s0v μ) kI := by
  rw [jn_X5_readKindNext_21]
  refine v_istore_n (n := 22) [(2, .int s0v), (0, .ref (G.2.1 43))] dX5_readKindNext_21 rfl (by decide) rfl rfl ?_
  refine v_aload_n (n := 23) dX5_readKindNext_22 rfl 1 rfl rfl ?_
  refine v_getR (n := 26) (i := 18) (q2 := 52) dX5_readKindNext_23 (show isO 43 5 from rfl) rfl fg_X5_34 rfl ?_
  refine v_aload_n (n := 27) dX5_readKindNext_26 rfl 1 rfl rfl ?_
  refine v_getI (n := 30) (i := 16) dX5_readKindNext_27 (show isO 43 5 from rfl) rfl fg_X5_107 rfl ?_
  refine v_iload_n (n := 31) dX5_readKindNext_30 rfl 0 rfl rfl ?_
  refine v_bipush (n := 33) (v := 80) dX5_readKindNext_31 cb_80 rfl ?_
  refine v_icmp_ne (tgt := 40) (n := 36) dX5_readKindNext_33 (by decide) rfl ?_ ?_
  · refine v_iconst (n := 37) (v := 0) dX5_readKindNext_36 ci_0 rfl ?_
    refine v_goto (tgt := 62) dX5_readKindNext_37 (by decide) ?_
    refine v_iast (n := 63) dX5_readKindNext_62 (show isA 52 7 from rfl) rfl ?_
    refine v_lm (fun μ7 => ?_)
    refine v_aload_n (n := 64) dX5_readKindNext_63 rfl 1 rfl rfl ?_
    refine v_getR (n := 67) (i := 18) (q2 := 52) dX5_readKindNext_64 (show isO 43 5 from rfl) rfl fg_X5_34 rfl ?_
    refine v_aload_n (n := 68) dX5_readKindNext_67 rfl 1 rfl rfl ?_
    refine v_getI (n := 71) (i := 16) dX5_readKindNext_68 (show isO 43 5 from rfl) rfl fg_X5_107 rfl ?_
    refine v_iald (n := 72) dX5_readKindNext_71 (show isA 52 7 from rfl) rfl ?_
    refine v_bipush (n := 74) (v := -9) dX5_readKindNext_72 cb_m9 rfl ?_
    refine v_icmp_ne (tgt := 79) (n := 77) dX5_readKindNext_74 (by decide) rfl ?_ ?_
    · refine v_iconst (n := 78) (v := 0) dX5_readKindNext_77 ci_0 rfl ?_
      exact v_zret dX5_readKindNext_78 rfl (by decide) rfl
    · refine v_aload_n (n := 80) dX5_readKindNext_79 rfl 1 rfl rfl ?_
      refine v_dup (n := 81) dX5_readKindNext_80 rfl rfl ?_
      refine v_getI (n := 84) (i := 15) dX5_readKindNext_81 (show isO 43 5 from rfl) rfl fg_X5_86 rfl ?_
      refine v_iconst (n := 85) (v := 1) dX5_readKindNext_84 ci_1 rfl ?_
      refine v_iadd (n := 86) dX5_readKindNext_85 rfl ?_
      refine v_put (n := 89) (i := 15) dX5_readKindNext_86 (show isO 43 5 from rfl) rfl fp_X5_86 rfl rfl rfl ?_
      refine v_lm (fun μ8 => ?_)
      refine v_iconst (n := 90) (v := 1) dX5_readKindNext_89 ci_1 rfl ?_
      exact v_zret dX5_readKindNext_90 rfl (by decide) rfl
  · refine v_iload_n (n := 41) dX5_readKindNext_40 rfl 0 rfl rfl ?_
    refine v_bipush (n := 43) (v := 76) dX5_readKindNext_41 cb_76 rfl ?_
    refine v_icmp_ne (tgt := 50) (n := 46) dX5_readKindNext_43 (by decide) rfl ?_ ?_
    · refine v_iconst (n := 47) (v := 1) dX5_readKindNext_46 ci_1 rfl ?_
      refine v_goto (tgt := 62) dX5_readKindNext_47 (by decide) ?_
      refine v_iast (n := 63) dX5_readKindNext_62 (show isA 52 7 from rfl) rfl ?_
      refine v_lm (fun μ5 => ?_)
      refine v_aload_n (n := 64) dX5_readKindNext_63 rfl 1 rfl rfl ?_
      refine v_getR (n := 67) (i := 18) (q2 := 52) dX5_readKindNext_64 (show isO 43 5 from rfl) rfl fg_X5_34 rfl ?_
      refine v_aload_n (n := 68) dX5_readKindNext_67 rfl 1 rfl rfl ?_
      refine v_getI (n := 71) (i := 16) dX5_readKindNext_68 (show isO 43 5 from rfl) rfl fg_X5_107 rfl ?_
      refine v_iald (n := 72) dX5_readKindNext_71 (show isA 52 7 from rfl) rfl ?_
      refine v_bipush (n := 74) (v := -9) dX5_readKindNext_72 cb_m9 rfl ?_
      refine v_icmp_ne (tgt := 79) (n := 77) dX5_readKindNext_74 (by decide) rfl ?_ ?_
      · refine v_iconst (n := 78) (v := 0) dX5_readKindNext_77 ci_0 rfl ?_
        exact v_zret dX5_readKindNext_78 rfl (by decide) rfl
      · refine v_aload_n (n := 80) dX5_readKindNext_79 rfl 1 rfl rfl ?_
        refine v_dup (n := 81) dX5_readKindNext_80 rfl rfl ?_
        refine v_getI (n := 84) (i := 15) dX5_readKindNext_81 (show isO 43 5 from rfl) rfl fg_X5_86 rfl ?_
        refine v_iconst (n := 85) (v := 1) dX5_readKindNext_84 ci_1 rfl ?_
        refine v_iadd (n := 86) dX5_readKindNext_85 rfl ?_
        refine v_put (n := 89) (i := 15) dX5_readKindNext_86 (show isO 43 5 from rfl) rfl fp_X5_86 rfl rfl rfl ?_
        refine v_lm (fun μ6 => ?_)
        refine v_iconst (n := 90) (v := 1) dX5_readKindNext_89 ci_1 rfl ?_
        exact v_zret dX5_readKindNext_90 rfl (by decide) rfl
    · refine v_iload_n (n := 51) dX5_readKindNext_50 rfl 0 rfl rfl ?_
      refine v_bipush (n := 53) (v := 68) dX5_readKindNext_51 cb_68 rfl ?_
      refine v_icmp_ne (tgt := 60) (n := 56) dX5_readKindNext_53 (by decide) rfl ?_ ?_
      · refine v_iconst (n := 57) (v := 2) dX5_readKindNext_56 ci_2 rfl ?_
        refine v_goto (tgt := 62) dX5_readKindNext_57 (by decide) ?_
        refine v_iast (n := 63) dX5_readKindNext_62 (show isA 52 7 from rfl) rfl ?_
        refine v_lm (fun μ3 => ?_)
        refine v_aload_n (n := 64) dX5_readKindNext_63 rfl 1 rfl rfl ?_
        refine v_getR (n := 67) (i := 18) (q2 := 52) dX5_readKindNext_64 (show isO 43 5 from rfl) rfl fg_X5_34 rfl ?_
        refine v_aload_n (n := 68) dX5_readKindNext_67 rfl 1 rfl rfl ?_
        refine v_getI (n := 71) (i := 16) dX5_readKindNext_68 (show isO 43 5 from rfl) rfl fg_X5_107 rfl ?_
        refine v_iald (n := 72) dX5_readKindNext_71 (show isA 52 7 from rfl) rfl ?_
        refine v_bipush (n := 74) (v := -9) dX5_readKindNext_72 cb_m9 rfl ?_
        refine v_icmp_ne (tgt := 79) (n := 77) dX5_readKindNext_74 (by decide) rfl ?_ ?_
        · refine v_iconst (n := 78) (v := 0) dX5_readKindNext_77 ci_0 rfl ?_
          exact v_zret dX5_readKindNext_78 rfl (by decide) rfl
        · refine v_aload_n (n := 80) dX5_readKindNext_79 rfl 1 rfl rfl ?_
          refine v_dup (n := 81) dX5_readKindNext_80 rfl rfl ?_
          refine v_getI (n := 84) (i := 15) dX5_readKindNext_81 (show isO 43 5 from rfl) rfl fg_X5_86 rfl ?_
          refine v_iconst (n := 85) (v := 1) dX5_readKindNext_84 ci_1 rfl ?_
          refine v_iadd (n := 86) dX5_readKindNext_85 rfl ?_
          refine v_put (n := 89) (i := 15) dX5_readKindNext_86 (show isO 43 5 from rfl) rfl fp_X5_86 rfl rfl rfl ?_
          refine v_lm (fun μ4 => ?_)
          refine v_iconst (n := 90) (v := 1) dX5_readKindNext_89 ci_1 rfl ?_
          exact v_zret dX5_readKindNext_90 rfl (by decide) rfl
      · refine v_bipush (n := 62) (v := -9) dX5_readKindNext_60 cb_m9 rfl ?_
        refine v_iast (n := 63) dX5_readKindNext_62 (show isA 52 7 from rfl) rfl ?_
        refine v_lm (fun μ1 => ?_)
        refine v_aload_n (n := 64) dX5_readKindNext_63 rfl 1 rfl rfl ?_
        refine v_getR (n := 67) (i := 18) (q2 := 52) dX5_readKindNext_64 (show isO 43 5 from rfl) rfl fg_X5_34 rfl ?_
        refine v_aload_n (n := 68) dX5_readKindNext_67 rfl 1 rfl rfl ?_
        refine v_getI (n := 71) (i := 16) dX5_readKindNext_68 (show isO 43 5 from rfl) rfl fg_X5_107 rfl ?_
        refine v_iald (n := 72) dX5_readKindNext_71 (show isA 52 7 from rfl) rfl ?_
        refine v_bipush (n := 74) (v := -9) dX5_readKindNext_72 cb_m9 rfl ?_
        refine v_icmp_ne (tgt := 79) (n := 77) dX5_readKindNext_74 (by decide) rfl ?_ ?_
        · refine v_iconst (n := 78) (v := 0) dX5_readKindNext_77 ci_0 rfl ?_
          exact v_zret dX5_readKindNext_78 rfl (by decide) rfl
        · refine v_aload_n (n := 80) dX5_readKindNext_79 rfl 1 rfl rfl ?_
          refine v_dup (n := 81) dX5_readKindNext_80 rfl rfl ?_
          refine v_getI (n := 84) (i := 15) dX5_readKindNext_81 (show isO 43 5 from rfl) rfl fg_X5_86 rfl ?_
          refine v_iconst (n := 85) (v := 1) dX5_readKindNext_84 ci_1 rfl ?_
          refine v_iadd (n := 86) dX5_readKindNext_85 rfl ?_
          refine v_put (n := 89) (i := 15) dX5_readKindNext_86 (show isO 43 5 from rfl) rfl fp_X5_86 rfl rfl rfl ?_
          refine v_lm (fun μ2 => ?_)
          refine v_iconst (n := 90) (v := 1) dX5_readKindNext_89 ci_1 rfl ?_
          exact v_zret dX5_readKindNext_90 rfl (by decide) rfl
set_option maxRecDepth 100000 in
set_option maxHeartbeats 4000000 in
theorem v_X5_readKindNext (G : GG) (a1 : Int32) (μ : Mem) : V G J_X5_readKindNext 0 [(0, .ref (G.2.1 43)), (1, .int a1)] [] μ (f_X5_readKindNext a1 μ) kI := by
  rw [f_X5_readKindNext]
  refine v_aload_n (n := 1) dX5_readKindNext_0 rfl 0 rfl rfl ?_
  refine v_getI (n := 4) (i := 15) dX5_readKindNext_1 (show isO 43 5 from rfl) rfl fg_X5_86 rfl ?_
  refine v_iload_n (n := 5) dX5_readKindNext_4 rfl 1 rfl rfl ?_
  refine v_icmp_ge (tgt := 20) (n := 8) dX5_readKindNext_5 (by decide) rfl ?_ ?_
  · refine v_iconst (n := 21) (v := 0) dX5_readKindNext_20 ci_0 rfl ?_
    exact v_sub [0] rfl (vjn_X5_readKindNext_21 G (0 : Int32) μ)
  · refine v_aload_n (n := 9) dX5_readKindNext_8 rfl 0 rfl rfl ?_
    refine v_getR (n := 12) (i := 4) (q2 := 46) dX5_readKindNext_9 (show isO 43 5 from rfl) rfl fg_X5_16 rfl ?_
    refine v_aload_n (n := 13) dX5_readKindNext_12 rfl 0 rfl rfl ?_
    refine v_getI (n := 16) (i := 15) dX5_readKindNext_13 (show isO 43 5 from rfl) rfl fg_X5_86 rfl ?_
    refine v_iald (n := 17) dX5_readKindNext_16 (show isA 46 240 from rfl) rfl ?_
    refine v_goto (tgt := 21) dX5_readKindNext_17 (by decide) ?_
    exact v_sub [0] rfl (vjn_X5_readKindNext_21 G (μ 46 (μ 43 15).toNatClampNeg) μ)
theorem M_X5_readKindNext (G : GG) (a1 : Int32) (μ : Mem) (t : Int32 × Mem) (ht : f_X5_readKindNext a1 μ = some t) : GM G J_X5_readKindNext yX5_readKindNext [.ref (G.2.1 43), .int a1] μ (oI t) :=
  gm_of (J := J_X5_readKindNext) (k := kI) rfl (by decide) (Nat.le_of_ble_eq_true rfl) (v_X5_readKindNext G a1 μ) ht rfl
set_option maxRecDepth 100000 in
set_option maxHeartbeats 4000000 in
theorem vjn_X5_readSentence_100 (G : GG) (x2v : Int32) (μ : Mem) : V G J_X5_readSentence 100 [(0, .ref (G.2.1 43)), (2, .int x2v)] [] μ (jn_X5_readSentence_100 x2v μ) kI := by
  rw [jn_X5_readSentence_100]
  refine v_aload_n (n := 101) dX5_readSentence_100 rfl 0 rfl rfl ?_
  refine v_getR (n := 104) (i := 20) (q2 := 54) dX5_readSentence_101 (show isO 43 5 from rfl) rfl fg_X5_40 rfl ?_
  refine v_iload_n (n := 105) dX5_readSentence_104 rfl 1 rfl rfl ?_
  refine v_aload_n (n := 106) dX5_readSentence_105 rfl 0 rfl rfl ?_
  refine v_getR (n := 109) (i := 4) (q2 := 46) dX5_readSentence_106 (show isO 43 5 from rfl) rfl fg_X5_16 rfl ?_
  refine v_aload_n (n := 110) dX5_readSentence_109 rfl 0 rfl rfl ?_
  refine v_getI (n := 113) (i := 15) dX5_readSentence_110 (show isO 43 5 from rfl) rfl fg_X5_86 rfl ?_
  refine v_iald (n := 114) dX5_readSentence_113 (show isA 46 240 from rfl) rfl ?_
  refine v_bipush (n := 116) (v := 45) dX5_readSentence_114 cb_45 rfl ?_
  refine v_icmp_ne (tgt := 123) (n := 119) dX5_readSentence_116 (by decide) rfl ?_ ?_
  · refine v_iconst (n := 120) (v := 4) dX5_readSentence_119 ci_4 rfl ?_
    refine v_goto (tgt := 135) dX5_readSentence_120 (by decide) ?_
    refine v_iast (n := 136) dX5_readSentence_135 (show isA 54 14 from rfl) rfl ?_
    refine v_lm (fun μ7 => ?_)
    refine v_aload_n (n := 137) dX5_readSentence_136 rfl 0 rfl rfl ?_
    refine v_dup (n := 138) dX5_readSentence_137 rfl rfl ?_
    refine v_getI (n := 141) (i := 15) dX5_readSentence_138 (show isO 43 5 from rfl) rfl fg_X5_86 rfl ?_
    refine v_iconst (n := 142) (v := 1) dX5_readSentence_141 ci_1 rfl ?_
    refine v_iadd (n := 143) dX5_readSentence_142 rfl ?_
    refine v_put (n := 146) (i := 15) dX5_readSentence_143 (show isO 43 5 from rfl) rfl fp_X5_86 rfl rfl rfl ?_
    refine v_lm (fun μ8 => ?_)
    refine v_iconst (n := 147) (v := 1) dX5_readSentence_146 ci_1 rfl ?_
    exact v_zret dX5_readSentence_147 rfl (by decide) rfl
  · refine v_aload_n (n := 124) dX5_readSentence_123 rfl 0 rfl rfl ?_
    refine v_getR (n := 127) (i := 4) (q2 := 46) dX5_readSentence_124 (show isO 43 5 from rfl) rfl fg_X5_16 rfl ?_
    refine v_aload_n (n := 128) dX5_readSentence_127 rfl 0 rfl rfl ?_
    refine v_getI (n := 131) (i := 15) dX5_readSentence_128 (show isO 43 5 from rfl) rfl fg_X5_86 rfl ?_
    refine v_iald (n := 132) dX5_readSentence_131 (show isA 46 240 from rfl) rfl ?_
    refine v_bipush (n := 134) (v := 97) dX5_readSentence_132 cb_97 rfl ?_
    refine v_isub (n := 135) dX5_readSentence_134 rfl ?_
    refine v_iast (n := 136) dX5_readSentence_135 (show isA 54 14 from rfl) rfl ?_
    refine v_lm (fun μ5 => ?_)
    refine v_aload_n (n := 137) dX5_readSentence_136 rfl 0 rfl rfl ?_
    refine v_dup (n := 138) dX5_readSentence_137 rfl rfl ?_
    refine v_getI (n := 141) (i := 15) dX5_readSentence_138 (show isO 43 5 from rfl) rfl fg_X5_86 rfl ?_
    refine v_iconst (n := 142) (v := 1) dX5_readSentence_141 ci_1 rfl ?_
    refine v_iadd (n := 143) dX5_readSentence_142 rfl ?_
    refine v_put (n := 146) (i := 15) dX5_readSentence_143 (show isO 43 5 from rfl) rfl fp_X5_86 rfl rfl rfl ?_
    refine v_lm (fun μ6 => ?_)
    refine v_iconst (n := 147) (v := 1) dX5_readSentence_146 ci_1 rfl ?_
    exact v_zret dX5_readSentence_147 rfl (by decide) rfl
set_option maxRecDepth 100000 in
set_option maxHeartbeats 4000000 in
theorem v_X5_readSentence (G : GG) (a1 : Int32) (a2 : Int32) (μ : Mem) : V G J_X5_readSentence 0 [(0, .ref (G.2.1 43)), (1, .int a1), (2, .int a2)] [] μ (f_X5_readSentence a1 a2 μ) kI := by
  rw [f_X5_readSentence]
  refine v_aload_n (n := 1) dX5_readSentence_0 rfl 0 rfl rfl ?_
  refine v_getI (n := 4) (i := 15) dX5_readSentence_1 (show isO 43 5 from rfl) rfl fg_X5_86 rfl ?_
  refine v_iload_n (n := 5) dX5_readSentence_4 rfl 1 rfl rfl ?_
  refine v_icmp_ge (tgt := 27) (n := 8) dX5_readSentence_5 (by decide) rfl ?_ ?_
  · refine v_iconst (n := 28) (v := 0) dX5_readSentence_27 ci_0 rfl ?_
    exact v_zret dX5_readSentence_28 rfl (by decide) rfl
  · refine v_aload_n (n := 9) dX5_readSentence_8 rfl 0 rfl rfl ?_
    refine v_getR (n := 12) (i := 4) (q2 := 46) dX5_readSentence_9 (show isO 43 5 from rfl) rfl fg_X5_16 rfl ?_
    refine v_aload_n (n := 13) dX5_readSentence_12 rfl 0 rfl rfl ?_
    refine v_getI (n := 16) (i := 15) dX5_readSentence_13 (show isO 43 5 from rfl) rfl fg_X5_86 rfl ?_
    refine v_iald (n := 17) dX5_readSentence_16 (show isA 46 240 from rfl) rfl ?_
    refine v_bipush (n := 19) (v := 49) dX5_readSentence_17 cb_49 rfl ?_
    refine v_bipush (n := 21) (v := 57) dX5_readSentence_19 cb_57 rfl ?_
    refine v_cSi (n := 24) (st := []) [.int (μ 46 (μ 43 15).toNatClampNeg), .int (49 : Int32), .int (57 : Int32)] dX5_readSentence_21 (fun t ht => M_X5_within G (μ 46 (μ 43 15).toNatClampNeg) (49 : Int32) (57 : Int32) μ t ht) cal_X5_within mw151 rfl rfl (Nat.le_of_ble_eq_true rfl) ⟨Nat.le_of_ble_eq_true rfl, Nat.le_of_ble_eq_true rfl⟩ rfl (fun x2 μ1 => ?_)
    refine v_if_ne (tgt := 29) (n := 27) dX5_readSentence_24 (by decide) rfl ?_ ?_
    · refine v_iconst (n := 28) (v := 0) dX5_readSentence_27 ci_0 rfl ?_
      exact v_zret dX5_readSentence_28 rfl (by decide) rfl
    · refine v_aload_n (n := 30) dX5_readSentence_29 rfl 0 rfl rfl ?_
      refine v_getR (n := 33) (i := 19) (q2 := 53) dX5_readSentence_30 (show isO 43 5 from rfl) rfl fg_X5_37 rfl ?_
      refine v_iload_n (n := 34) dX5_readSentence_33 rfl 2 rfl rfl ?_
      refine v_aload_n (n := 35) dX5_readSentence_34 rfl 0 rfl rfl ?_
      refine v_getR (n := 38) (i := 4) (q2 := 46) dX5_readSentence_35 (show isO 43 5 from rfl) rfl fg_X5_16 rfl ?_
      refine v_aload_n (n := 39) dX5_readSentence_38 rfl 0 rfl rfl ?_
      refine v_getI (n := 42) (i := 15) dX5_readSentence_39 (show isO 43 5 from rfl) rfl fg_X5_86 rfl ?_
      refine v_iald (n := 43) dX5_readSentence_42 (show isA 46 240 from rfl) rfl ?_
      refine v_bipush (n := 45) (v := 48) dX5_readSentence_43 cb_48 rfl ?_
      refine v_isub (n := 46) dX5_readSentence_45 rfl ?_
      refine v_iast (n := 47) dX5_readSentence_46 (show isA 53 14 from rfl) rfl ?_
      refine v_lm (fun μ3 => ?_)
      refine v_aload_n (n := 48) dX5_readSentence_47 rfl 0 rfl rfl ?_
      refine v_dup (n := 49) dX5_readSentence_48 rfl rfl ?_
      refine v_getI (n := 52) (i := 15) dX5_readSentence_49 (show isO 43 5 from rfl) rfl fg_X5_86 rfl ?_
      refine v_iconst (n := 53) (v := 1) dX5_readSentence_52 ci_1 rfl ?_
      refine v_iadd (n := 54) dX5_readSentence_53 rfl ?_
      refine v_put (n := 57) (i := 15) dX5_readSentence_54 (show isO 43 5 from rfl) rfl fp_X5_86 rfl rfl rfl ?_
      refine v_lm (fun μ4 => ?_)
      refine v_aload_n (n := 58) dX5_readSentence_57 rfl 0 rfl rfl ?_
      refine v_getI (n := 61) (i := 15) dX5_readSentence_58 (show isO 43 5 from rfl) rfl fg_X5_86 rfl ?_
      refine v_iload_n (n := 62) dX5_readSentence_61 rfl 1 rfl rfl ?_
      refine v_icmp_ge (tgt := 98) (n := 65) dX5_readSentence_62 (by decide) rfl ?_ ?_
      · refine v_iconst (n := 99) (v := 0) dX5_readSentence_98 ci_0 rfl ?_
        exact v_zret dX5_readSentence_99 rfl (by decide) rfl
      · refine v_aload_n (n := 66) dX5_readSentence_65 rfl 0 rfl rfl ?_
        refine v_getR (n := 69) (i := 4) (q2 := 46) dX5_readSentence_66 (show isO 43 5 from rfl) rfl fg_X5_16 rfl ?_
        refine v_aload_n (n := 70) dX5_readSentence_69 rfl 0 rfl rfl ?_
        refine v_getI (n := 73) (i := 15) dX5_readSentence_70 (show isO 43 5 from rfl) rfl fg_X5_86 rfl ?_
        refine v_iald (n := 74) dX5_readSentence_73 (show isA 46 240 from rfl) rfl ?_
        refine v_bipush (n := 76) (v := 45) dX5_readSentence_74 cb_45 rfl ?_
        refine v_icmp_eq (tgt := 100) (n := 79) dX5_readSentence_76 (by decide) rfl ?_ ?_
        · exact v_sub [0, 2] rfl (vjn_X5_readSentence_100 G a2 μ4)
        · refine v_aload_n (n := 80) dX5_readSentence_79 rfl 0 rfl rfl ?_
          refine v_getR (n := 83) (i := 4) (q2 := 46) dX5_readSentence_80 (show isO 43 5 from rfl) rfl fg_X5_16 rfl ?_
          refine v_aload_n (n := 84) dX5_readSentence_83 rfl 0 rfl rfl ?_
          refine v_getI (n := 87) (i := 15) dX5_readSentence_84 (show isO 43 5 from rfl) rfl fg_X5_86 rfl ?_
          refine v_iald (n := 88) dX5_readSentence_87 (show isA 46 240 from rfl) rfl ?_
          refine v_bipush (n := 90) (v := 97) dX5_readSentence_88 cb_97 rfl ?_
          refine v_bipush (n := 92) (v := 100) dX5_readSentence_90 cb_100 rfl ?_
          refine v_cSi (n := 95) (st := []) [.int (μ4 46 (μ4 43 15).toNatClampNeg), .int (97 : Int32), .int (100 : Int32)] dX5_readSentence_92 (fun t ht => M_X5_within G (μ4 46 (μ4 43 15).toNatClampNeg) (97 : Int32) (100 : Int32) μ4 t ht) cal_X5_within mw151 rfl rfl (Nat.le_of_ble_eq_true rfl) ⟨Nat.le_of_ble_eq_true rfl, Nat.le_of_ble_eq_true rfl⟩ rfl (fun x10 μ9 => ?_)
          refine v_if_ne (tgt := 100) (n := 98) dX5_readSentence_95 (by decide) rfl ?_ ?_
          · refine v_iconst (n := 99) (v := 0) dX5_readSentence_98 ci_0 rfl ?_
            exact v_zret dX5_readSentence_99 rfl (by decide) rfl
          · exact v_sub [0, 2] rfl (vjn_X5_readSentence_100 G a2 μ9)
theorem M_X5_readSentence (G : GG) (a1 : Int32) (a2 : Int32) (μ : Mem) (t : Int32 × Mem) (ht : f_X5_readSentence a1 a2 μ = some t) : GM G J_X5_readSentence yX5_readSentence [.ref (G.2.1 43), .int a1, .int a2] μ (oI t) :=
  gm_of (J := J_X5_readSentence) (k := kI) rfl (by decide) (Nat.le_of_ble_eq_true rfl) (v_X5_readSentence G a1 a2 μ) ht rfl
