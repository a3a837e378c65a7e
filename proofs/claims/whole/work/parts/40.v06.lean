set_option maxRecDepth 100000 in
set_option maxHeartbeats 4000000 in
theorem vjn_X5_lose_25 (G : GG) (x1v : Int32) (s0v : Int32) (μ : Mem) : V G J_X5_lose 25 [(0, .ref (G.2.1 43)), (1, .int x1v)] [.int s0v] μ (jn_X5_lose_25 x1v s0v μ) kI := by
  rw [jn_X5_lose_25]
  refine v_istore_n (n := 26) [(2, .int s0v), (0, .ref (G.2.1 43)), (1, .int x1v)] dX5_lose_25 rfl (by decide) rfl rfl ?_
  refine v_aload_n (n := 27) dX5_lose_26 rfl 1 rfl rfl ?_
  refine v_getR (n := 30) (i := 2) (q2 := 44) dX5_lose_27 (show isO 43 5 from rfl) rfl fg_X5_9 rfl ?_
  refine v_iload_n (n := 31) dX5_lose_30 rfl 2 rfl rfl ?_
  refine v_bipush (n := 33) (v := -9) dX5_lose_31 cb_m9 rfl ?_
  refine v_iast (n := 34) dX5_lose_33 (show isA 44 4 from rfl) rfl ?_
  refine v_lm (fun μ3 => ?_)
  refine v_iload_n (n := 35) dX5_lose_34 rfl 0 rfl rfl ?_
  exact v_iret dX5_lose_35 rfl rfl
set_option maxRecDepth 100000 in
set_option maxHeartbeats 4000000 in
theorem v_X5_lose (G : GG) (a1 : Int32) (μ : Mem) : V G J_X5_lose 0 [(0, .ref (G.2.1 43)), (1, .int a1)] [] μ (f_X5_lose a1 μ) kI := by
  rw [f_X5_lose]
  refine v_iload_n (n := 1) dX5_lose_0 rfl 1 rfl rfl ?_
  refine v_cSi (n := 4) (st := []) [.int a1] dX5_lose_1 (fun t ht => M_X5_isSheet G a1 μ t ht) cal_X5_isSheet mw166 rfl rfl (Nat.le_of_ble_eq_true rfl) ⟨Nat.le_of_ble_eq_true rfl, Nat.le_of_ble_eq_true rfl⟩ rfl (fun x2 μ1 => ?_)
  refine v_if_ne (tgt := 9) (n := 7) dX5_lose_4 (by decide) rfl ?_ ?_
  · refine v_iconst (n := 8) (v := -1) dX5_lose_7 ci_m1 rfl ?_
    exact v_iret dX5_lose_8 rfl rfl
  · refine v_aload_n (n := 10) dX5_lose_9 rfl 0 rfl rfl ?_
    refine v_getR (n := 13) (i := 2) (q2 := 44) dX5_lose_10 (show isO 43 5 from rfl) rfl fg_X5_9 rfl ?_
    refine v_iload_n (n := 14) dX5_lose_13 rfl 1 rfl rfl ?_
    refine v_iald (n := 15) dX5_lose_14 (show isA 44 4 from rfl) rfl ?_
    refine v_bipush (n := 17) (v := -9) dX5_lose_15 cb_m9 rfl ?_
    refine v_icmp_ne (tgt := 24) (n := 20) dX5_lose_17 (by decide) rfl ?_ ?_
    · refine v_iconst (n := 21) (v := 0) dX5_lose_20 ci_0 rfl ?_
      refine v_goto (tgt := 25) dX5_lose_21 (by decide) ?_
      exact vjn_X5_lose_25 G a1 (0 : Int32) μ1
    · refine v_iconst (n := 25) (v := 1) dX5_lose_24 ci_1 rfl ?_
      exact vjn_X5_lose_25 G a1 (1 : Int32) μ1
theorem M_X5_lose (G : GG) (a1 : Int32) (μ : Mem) (t : Int32 × Mem) (ht : f_X5_lose a1 μ = some t) : GM G J_X5_lose yX5_lose [.ref (G.2.1 43), .int a1] μ (oI t) :=
  gm_of (J := J_X5_lose) (k := kI) rfl (by decide) (Nat.le_of_ble_eq_true rfl) (v_X5_lose G a1 μ) ht rfl
set_option maxRecDepth 100000 in
set_option maxHeartbeats 4000000 in
theorem v_X5_put (G : GG) (a1 : Int32) (a2 : Int32) (a3 : Int32) (μ : Mem) : V G J_X5_put 0 [(0, .ref (G.2.1 43)), (1, .int a1), (2, .int a2), (3, .int a3)] [] μ (f_X5_put a1 a2 a3 μ) kI := by
  rw [f_X5_put]
  refine v_aload_n (n := 1) dX5_put_0 rfl 0 rfl rfl ?_
  refine v_iconst (n := 2) (v := 0) dX5_put_1 ci_0 rfl ?_
  refine v_put (n := 5) (i := 0) dX5_put_2 (show isO 43 5 from rfl) rfl fp_X5_70 rfl rfl rfl ?_
  refine v_lm (fun μ1 => ?_)
  refine v_iload_n (n := 6) dX5_put_5 rfl 1 rfl rfl ?_
  refine v_cSi (n := 9) (st := []) [.int a1] dX5_put_6 (fun t ht => M_X5_isSheet G a1 μ1 t ht) cal_X5_isSheet mw166 rfl rfl (Nat.le_of_ble_eq_true rfl) ⟨Nat.le_of_ble_eq_true rfl, Nat.le_of_ble_eq_true rfl⟩ rfl (fun x3 μ2 => ?_)
  refine v_if_ne (tgt := 14) (n := 12) dX5_put_9 (by decide) rfl ?_ ?_
  · refine v_iconst (n := 13) (v := -1) dX5_put_12 ci_m1 rfl ?_
    exact v_iret dX5_put_13 rfl rfl
  · refine v_aload_n (n := 15) dX5_put_14 rfl 0 rfl rfl ?_
    refine v_getR (n := 18) (i := 2) (q2 := 44) dX5_put_15 (show isO 43 5 from rfl) rfl fg_X5_9 rfl ?_
    refine v_iload_n (n := 19) dX5_put_18 rfl 1 rfl rfl ?_
    refine v_iald (n := 20) dX5_put_19 (show isA 44 4 from rfl) rfl ?_
    refine v_bipush (n := 22) (v := -9) dX5_put_20 cb_m9 rfl ?_
    refine v_icmp_ne (tgt := 31) (n := 25) dX5_put_22 (by decide) rfl ?_ ?_
    · refine v_aload_n (n := 26) dX5_put_25 rfl 0 rfl rfl ?_
      refine v_iconst (n := 27) (v := 1) dX5_put_26 ci_1 rfl ?_
      refine v_cVi (n := 30) (st := []) [.int (1 : Int32)] dX5_put_27 (fun t ht => M_X5_fails G (1 : Int32) μ2 t ht) cal_X5_fails mw179 (show isO 43 5 from rfl) rfl rfl (Nat.le_of_ble_eq_true rfl) ⟨Nat.le_of_ble_eq_true rfl, Nat.le_of_ble_eq_true rfl⟩ rfl (fun x12 μ11 => ?_)
      exact v_iret dX5_put_30 rfl rfl
    · refine v_iload_n (n := 32) dX5_put_31 rfl 2 rfl rfl ?_
      refine v_iconst (n := 33) (v := 0) dX5_put_32 ci_0 rfl ?_
      refine v_aload_n (n := 34) dX5_put_33 rfl 0 rfl rfl ?_
      refine v_getR (n := 37) (i := 3) (q2 := 45) dX5_put_34 (show isO 43 5 from rfl) rfl fg_X5_13 rfl ?_
      refine v_iload_n (n := 38) dX5_put_37 rfl 1 rfl rfl ?_
      refine v_iald (n := 39) dX5_put_38 (show isA 45 4 from rfl) rfl ?_
      refine v_iconst (n := 40) (v := 1) dX5_put_39 ci_1 rfl ?_
      refine v_isub (n := 41) dX5_put_40 rfl ?_
      refine v_cSi (n := 44) (st := []) [.int a2, .int (0 : Int32), .int (μ2 45 a1.toNatClampNeg - (1 : Int32))] dX5_put_41 (fun t ht => M_X5_within G a2 (0 : Int32) (μ2 45 a1.toNatClampNeg - (1 : Int32)) μ2 t ht) cal_X5_within mw151 rfl rfl (Nat.le_of_ble_eq_true rfl) ⟨Nat.le_of_ble_eq_true rfl, Nat.le_of_ble_eq_true rfl⟩ rfl (fun x5 μ4 => ?_)
      refine v_if_ne (tgt := 53) (n := 47) dX5_put_44 (by decide) rfl ?_ ?_
      · refine v_aload_n (n := 48) dX5_put_47 rfl 0 rfl rfl ?_
        refine v_iconst (n := 49) (v := 3) dX5_put_48 ci_3 rfl ?_
        refine v_cVi (n := 52) (st := []) [.int (3 : Int32)] dX5_put_49 (fun t ht => M_X5_fails G (3 : Int32) μ4 t ht) cal_X5_fails mw179 (show isO 43 5 from rfl) rfl rfl (Nat.le_of_ble_eq_true rfl) ⟨Nat.le_of_ble_eq_true rfl, Nat.le_of_ble_eq_true rfl⟩ rfl (fun x10 μ9 => ?_)
        exact v_iret dX5_put_52 rfl rfl
      · refine v_aload_n (n := 54) dX5_put_53 rfl 0 rfl rfl ?_
        refine v_getR (n := 57) (i := 4) (q2 := 46) dX5_put_54 (show isO 43 5 from rfl) rfl fg_X5_16 rfl ?_
        refine v_bipush (n := 59) (v := 60) dX5_put_57 cb_60 rfl ?_
        refine v_iload_n (n := 60) dX5_put_59 rfl 1 rfl rfl ?_
        refine v_imul (n := 61) dX5_put_60 rfl ?_
        refine v_iload_n (n := 62) dX5_put_61 rfl 2 rfl rfl ?_
        refine v_iadd (n := 63) dX5_put_62 rfl ?_
        refine v_aload_n (n := 64) dX5_put_63 rfl 0 rfl rfl ?_
        refine v_getR (n := 67) (i := 2) (q2 := 44) dX5_put_64 (show isO 43 5 from rfl) rfl fg_X5_9 rfl ?_
        refine v_iload_n (n := 68) dX5_put_67 rfl 1 rfl rfl ?_
        refine v_iald (n := 69) dX5_put_68 (show isA 44 4 from rfl) rfl ?_
        refine v_if_ne (tgt := 77) (n := 72) dX5_put_69 (by decide) rfl ?_ ?_
        · refine v_iload_n (n := 73) dX5_put_72 rfl 3 rfl rfl ?_
          refine v_i2b (n := 74) dX5_put_73 rfl ?_
          refine v_goto (tgt := 93) dX5_put_74 (by decide) ?_
          refine v_iast (n := 94) dX5_put_93 (show isA 46 240 from rfl) rfl ?_
          refine v_lm (fun μ8 => ?_)
          refine v_iconst (n := 95) (v := 1) dX5_put_94 ci_1 rfl ?_
          exact v_iret dX5_put_95 rfl rfl
        · refine v_aload_n (n := 78) dX5_put_77 rfl 0 rfl rfl ?_
          refine v_getR (n := 81) (i := 2) (q2 := 44) dX5_put_78 (show isO 43 5 from rfl) rfl fg_X5_9 rfl ?_
          refine v_iload_n (n := 82) dX5_put_81 rfl 1 rfl rfl ?_
          refine v_iald (n := 83) dX5_put_82 (show isA 44 4 from rfl) rfl ?_
          refine v_iconst (n := 84) (v := 1) dX5_put_83 ci_1 rfl ?_
          refine v_icmp_ne (tgt := 92) (n := 87) dX5_put_84 (by decide) rfl ?_ ?_
          · refine v_iload_n (n := 88) dX5_put_87 rfl 3 rfl rfl ?_
            refine v_i2s (n := 89) dX5_put_88 rfl ?_
            refine v_goto (tgt := 93) dX5_put_89 (by decide) ?_
            refine v_iast (n := 94) dX5_put_93 (show isA 46 240 from rfl) rfl ?_
            refine v_lm (fun μ7 => ?_)
            refine v_iconst (n := 95) (v := 1) dX5_put_94 ci_1 rfl ?_
            exact v_iret dX5_put_95 rfl rfl
          · refine v_iload_n (n := 93) dX5_put_92 rfl 3 rfl rfl ?_
            refine v_iast (n := 94) dX5_put_93 (show isA 46 240 from rfl) rfl ?_
            refine v_lm (fun μ6 => ?_)
            refine v_iconst (n := 95) (v := 1) dX5_put_94 ci_1 rfl ?_
            exact v_iret dX5_put_95 rfl rfl
theorem M_X5_put (G : GG) (a1 : Int32) (a2 : Int32) (a3 : Int32) (μ : Mem) (t : Int32 × Mem) (ht : f_X5_put a1 a2 a3 μ = some t) : GM G J_X5_put yX5_put [.ref (G.2.1 43), .int a1, .int a2, .int a3] μ (oI t) :=
  gm_of (J := J_X5_put) (k := kI) rfl (by decide) (Nat.le_of_ble_eq_true rfl) (v_X5_put G a1 a2 a3 μ) ht rfl
set_option maxRecDepth 100000 in
set_option maxHeartbeats 4000000 in
theorem vjn_X5_cell_50 (G : GG) (x1v : Int32) (x2v : Int32) (μ : Mem) : V G J_X5_cell 50 [(0, .ref (G.2.1 43)), (1, .int x1v), (2, .int x2v)] [] μ (jn_X5_cell_50 x1v x2v μ) kL := by
  rw [jn_X5_cell_50]
  refine v_aload_n (n := 51) dX5_cell_50 rfl 0 rfl rfl ?_
  refine v_getR (n := 54) (i := 2) (q2 := 44) dX5_cell_51 (show isO 43 5 from rfl) rfl fg_X5_9 rfl ?_
  refine v_iload_n (n := 55) dX5_cell_54 rfl 1 rfl rfl ?_
  refine v_iald (n := 56) dX5_cell_55 (show isA 44 4 from rfl) rfl ?_
  refine v_bipush (n := 58) (v := -9) dX5_cell_56 cb_m9 rfl ?_
  refine v_icmp_ne (tgt := 67) (n := 61) dX5_cell_58 (by decide) rfl ?_ ?_
  · refine v_aload_n (n := 62) dX5_cell_61 rfl 0 rfl rfl ?_
    refine v_iconst (n := 63) (v := 1) dX5_cell_62 ci_1 rfl ?_
    refine v_cVl (n := 66) (st := []) [.int (1 : Int32)] dX5_cell_63 (fun t ht => M_X5_lost G (1 : Int32) μ t ht) cal_X5_lost mw215 (show isO 43 5 from rfl) rfl rfl (Nat.le_of_ble_eq_true rfl) ⟨Nat.le_of_ble_eq_true rfl, Nat.le_of_ble_eq_true rfl⟩ rfl (fun x11 μ10 => ?_)
    exact v_lret dX5_cell_66 rfl rfl
  · refine v_iload_n (n := 68) dX5_cell_67 rfl 2 rfl rfl ?_
    refine v_iconst (n := 69) (v := 0) dX5_cell_68 ci_0 rfl ?_
    refine v_aload_n (n := 70) dX5_cell_69 rfl 0 rfl rfl ?_
    refine v_getR (n := 73) (i := 3) (q2 := 45) dX5_cell_70 (show isO 43 5 from rfl) rfl fg_X5_13 rfl ?_
    refine v_iload_n (n := 74) dX5_cell_73 rfl 1 rfl rfl ?_
    refine v_iald (n := 75) dX5_cell_74 (show isA 45 4 from rfl) rfl ?_
    refine v_iconst (n := 76) (v := 1) dX5_cell_75 ci_1 rfl ?_
    refine v_isub (n := 77) dX5_cell_76 rfl ?_
    refine v_cSi (n := 80) (st := []) [.int x2v, .int (0 : Int32), .int (μ 45 x1v.toNatClampNeg - (1 : Int32))] dX5_cell_77 (fun t ht => M_X5_within G x2v (0 : Int32) (μ 45 x1v.toNatClampNeg - (1 : Int32)) μ t ht) cal_X5_within mw151 rfl rfl (Nat.le_of_ble_eq_true rfl) ⟨Nat.le_of_ble_eq_true rfl, Nat.le_of_ble_eq_true rfl⟩ rfl (fun x7 μ6 => ?_)
    refine v_if_ne (tgt := 89) (n := 83) dX5_cell_80 (by decide) rfl ?_ ?_
    · refine v_aload_n (n := 84) dX5_cell_83 rfl 0 rfl rfl ?_
      refine v_iconst (n := 85) (v := 3) dX5_cell_84 ci_3 rfl ?_
      refine v_cVl (n := 88) (st := []) [.int (3 : Int32)] dX5_cell_85 (fun t ht => M_X5_lost G (3 : Int32) μ6 t ht) cal_X5_lost mw215 (show isO 43 5 from rfl) rfl rfl (Nat.le_of_ble_eq_true rfl) ⟨Nat.le_of_ble_eq_true rfl, Nat.le_of_ble_eq_true rfl⟩ rfl (fun x9 μ8 => ?_)
      exact v_lret dX5_cell_88 rfl rfl
    · refine v_aload_n (n := 90) dX5_cell_89 rfl 0 rfl rfl ?_
      refine v_getR (n := 93) (i := 4) (q2 := 46) dX5_cell_90 (show isO 43 5 from rfl) rfl fg_X5_16 rfl ?_
      refine v_bipush (n := 95) (v := 60) dX5_cell_93 cb_60 rfl ?_
      refine v_iload_n (n := 96) dX5_cell_95 rfl 1 rfl rfl ?_
      refine v_imul (n := 97) dX5_cell_96 rfl ?_
      refine v_iload_n (n := 98) dX5_cell_97 rfl 2 rfl rfl ?_
      refine v_iadd (n := 99) dX5_cell_98 rfl ?_
      refine v_iald (n := 100) dX5_cell_99 (show isA 46 240 from rfl) rfl ?_
      refine v_i2l (n := 101) dX5_cell_100 rfl ?_
      exact v_lret dX5_cell_101 rfl rfl
set_option maxRecDepth 100000 in
set_option maxHeartbeats 4000000 in
theorem v_X5_cell (G : GG) (a1 : Int32) (a2 : Int32) (a3 : Int32) (μ : Mem) : V G J_X5_cell 0 [(0, .ref (G.2.1 43)), (1, .int a1), (2, .int a2), (3, .int a3)] [] μ (f_X5_cell a1 a2 a3 μ) kL := by
  rw [f_X5_cell]
  refine v_aload_n (n := 1) dX5_cell_0 rfl 0 rfl rfl ?_
  refine v_iconst (n := 2) (v := 0) dX5_cell_1 ci_0 rfl ?_
  refine v_put (n := 5) (i := 0) dX5_cell_2 (show isO 43 5 from rfl) rfl fp_X5_70 rfl rfl rfl ?_
  refine v_lm (fun μ1 => ?_)
  refine v_iload_n (n := 6) dX5_cell_5 rfl 1 rfl rfl ?_
  refine v_cSi (n := 9) (st := []) [.int a1] dX5_cell_6 (fun t ht => M_X5_isSheet G a1 μ1 t ht) cal_X5_isSheet mw166 rfl rfl (Nat.le_of_ble_eq_true rfl) ⟨Nat.le_of_ble_eq_true rfl, Nat.le_of_ble_eq_true rfl⟩ rfl (fun x3 μ2 => ?_)
  refine v_if_eq (tgt := 19) (n := 12) dX5_cell_9 (by decide) rfl ?_ ?_
  · refine v_ldc2 (n := 22) (v := -9223372036854775808) dX5_cell_19 mw150 rfl ?_
    exact v_lret dX5_cell_22 rfl rfl
  · refine v_iload_n (n := 13) dX5_cell_12 rfl 3 rfl rfl ?_
    refine v_cSi (n := 16) (st := []) [.int a3] dX5_cell_13 (fun t ht => M_X5_isSort G a3 μ2 t ht) cal_X5_isSort mw167 rfl rfl (Nat.le_of_ble_eq_true rfl) ⟨Nat.le_of_ble_eq_true rfl, Nat.le_of_ble_eq_true rfl⟩ rfl (fun x5 μ4 => ?_)
    refine v_if_ne (tgt := 23) (n := 19) dX5_cell_16 (by decide) rfl ?_ ?_
    · refine v_ldc2 (n := 22) (v := -9223372036854775808) dX5_cell_19 mw150 rfl ?_
      exact v_lret dX5_cell_22 rfl rfl
    · refine v_aload_n (n := 24) dX5_cell_23 rfl 0 rfl rfl ?_
      refine v_getR (n := 27) (i := 2) (q2 := 44) dX5_cell_24 (show isO 43 5 from rfl) rfl fg_X5_9 rfl ?_
      refine v_iload_n (n := 28) dX5_cell_27 rfl 1 rfl rfl ?_
      refine v_iald (n := 29) dX5_cell_28 (show isA 44 4 from rfl) rfl ?_
      refine v_bipush (n := 31) (v := -9) dX5_cell_29 cb_m9 rfl ?_
      refine v_icmp_eq (tgt := 50) (n := 34) dX5_cell_31 (by decide) rfl ?_ ?_
      · exact v_sub [0, 1, 2] rfl (vjn_X5_cell_50 G a1 a2 μ4)
      · refine v_aload_n (n := 35) dX5_cell_34 rfl 0 rfl rfl ?_
        refine v_getR (n := 38) (i := 2) (q2 := 44) dX5_cell_35 (show isO 43 5 from rfl) rfl fg_X5_9 rfl ?_
        refine v_iload_n (n := 39) dX5_cell_38 rfl 1 rfl rfl ?_
        refine v_iald (n := 40) dX5_cell_39 (show isA 44 4 from rfl) rfl ?_
        refine v_iload_n (n := 41) dX5_cell_40 rfl 3 rfl rfl ?_
        refine v_icmp_eq (tgt := 50) (n := 44) dX5_cell_41 (by decide) rfl ?_ ?_
        · exact v_sub [0, 1, 2] rfl (vjn_X5_cell_50 G a1 a2 μ4)
        · refine v_aload_n (n := 45) dX5_cell_44 rfl 0 rfl rfl ?_
          refine v_iconst (n := 46) (v := 2) dX5_cell_45 ci_2 rfl ?_
          refine v_cVl (n := 49) (st := []) [.int (2 : Int32)] dX5_cell_46 (fun t ht => M_X5_lost G (2 : Int32) μ4 t ht) cal_X5_lost mw215 (show isO 43 5 from rfl) rfl rfl (Nat.le_of_ble_eq_true rfl) ⟨Nat.le_of_ble_eq_true rfl, Nat.le_of_ble_eq_true rfl⟩ rfl (fun x13 μ12 => ?_)
          exact v_lret dX5_cell_49 rfl rfl
theorem M_X5_cell (G : GG) (a1 : Int32) (a2 : Int32) (a3 : Int32) (μ : Mem) (t : Int64 × Mem) (ht : f_X5_cell a1 a2 a3 μ = some t) : GM G J_X5_cell yX5_cell [.ref (G.2.1 43), .int a1, .int a2, .int a3] μ (oL t) :=
  gm_of (J := J_X5_cell) (k := kL) rfl (by decide) (Nat.le_of_ble_eq_true rfl) (v_X5_cell G a1 a2 a3 μ) ht rfl
set_option maxRecDepth 100000 in
set_option maxHeartbeats 4000000 in
theorem vjn_X5_copy_190 (G : GG) (ih : Int32 → Mem → Option (Mem)) (x1v : Int32) (x2v : Int32) (x3v : Int32) (x4v : Int32) (x5v : Int32) (x7v : Int32) (x8v : Int32) (s0v : Int32) (kk : (Mem) → Option Oc) (hx : ∀ (μ : Mem), V G J_X5_copy 227 [(5, .int x5v)] [] μ (kk μ) some) (hih : ∀ (w8v : Int32) (μ : Mem), V G J_X5_copy 166 [(0, .ref (G.2.1 43)), (1, .int x1v), (2, .int x2v), (3, .int x3v), (4, .int x4v), (5, .int x5v), (7, .int x7v), (8, .int w8v)] [] μ (ih w8v μ) kk) (μ : Mem) : V G J_X5_copy 190 [(0, .ref (G.2.1 43)), (1, .int x1v), (2, .int x2v), (3, .int x3v), (4, .int x4v), (5, .int x5v), (7, .int x7v), (8, .int x8v)] [.int s0v] μ (jn_X5_copy_190 ih x1v x2v x3v x4v x5v x7v x8v s0v μ) kk := by
  rw [jn_X5_copy_190]
  refine v_istore (n := 192) [(9, .int s0v), (0, .ref (G.2.1 43)), (1, .int x1v), (2, .int x2v), (3, .int x3v), (4, .int x4v), (5, .int x5v), (7, .int x7v), (8, .int x8v)] dX5_copy_190 (by decide) rfl rfl ?_
  refine v_aload_n (n := 193) dX5_copy_192 rfl 1 rfl rfl ?_
  refine v_getR (n := 196) (i := 4) (q2 := 46) dX5_copy_193 (show isO 43 5 from rfl) rfl fg_X5_16 rfl ?_
  refine v_bipush (n := 198) (v := 60) dX5_copy_196 cb_60 rfl ?_
  refine v_iload_n (n := 199) dX5_copy_198 rfl 4 rfl rfl ?_
  refine v_imul (n := 200) dX5_copy_199 rfl ?_
  refine v_iload (n := 202) dX5_copy_200 5 rfl rfl ?_
  refine v_iadd (n := 203) dX5_copy_202 rfl ?_
  refine v_iload (n := 205) dX5_copy_203 0 rfl rfl ?_
  refine v_iadd (n := 206) dX5_copy_205 rfl ?_
  refine v_aload_n (n := 207) dX5_copy_206 rfl 1 rfl rfl ?_
  refine v_getR (n := 210) (i := 4) (q2 := 46) dX5_copy_207 (show isO 43 5 from rfl) rfl fg_X5_16 rfl ?_
  refine v_bipush (n := 212) (v := 60) dX5_copy_210 cb_60 rfl ?_
  refine v_iload_n (n := 213) dX5_copy_212 rfl 2 rfl rfl ?_
  refine v_imul (n := 214) dX5_copy_213 rfl ?_
  refine v_iload_n (n := 215) dX5_copy_214 rfl 3 rfl rfl ?_
  refine v_iadd (n := 216) dX5_copy_215 rfl ?_
  refine v_iload (n := 218) dX5_copy_216 0 rfl rfl ?_
  refine v_iadd (n := 219) dX5_copy_218 rfl ?_
  refine v_iald (n := 220) dX5_copy_219 (show isA 46 240 from rfl) rfl ?_
  refine v_iast (n := 221) dX5_copy_220 (show isA 46 240 from rfl) rfl ?_
  refine v_lm (fun μ12 => ?_)
  refine v_iinc (n := 224) (w := 1) (fun x13 => [(8, .int x13), (9, .int s0v), (0, .ref (G.2.1 43)), (1, .int x1v), (2, .int x2v), (3, .int x3v), (4, .int x4v), (5, .int x5v), (7, .int x7v)]) dX5_copy_221 8 rfl ci_1 (by decide) (fun _ => rfl) rfl (fun x13 => ?_)
  refine v_goto (tgt := 166) dX5_copy_224 (by decide) ?_
  exact v_sub [2, 3, 4, 5, 6, 7, 8, 0] rfl (hih x13 μ12)
set_option maxRecDepth 100000 in
set_option maxHeartbeats 4000000 in
theorem vlp_X5_copy_166 (G : GG) (x1v : Int32) (x2v : Int32) (x3v : Int32) (x4v : Int32) (x5v : Int32) (x7v : Int32) (kk : (Mem) → Option Oc) (hx : ∀ (μ : Mem), V G J_X5_copy 227 [(5, .int x5v)] [] μ (kk μ) some) : ∀ (n : Nat) (x8v : Int32) (μ : Mem), V G J_X5_copy 166 [(0, .ref (G.2.1 43)), (1, .int x1v), (2, .int x2v), (3, .int x3v), (4, .int x4v), (5, .int x5v), (7, .int x7v), (8, .int x8v)] [] μ (lp_X5_copy_166 x1v x2v x3v x4v x5v x7v n x8v μ) kk := by
  intro n
  induction n with
  | zero => intro _ _; exact v_none
  | succ n ih =>
    intro x8v μ
    rw [lp_X5_copy_166]
    refine v_iload (n := 168) dX5_copy_166 7 rfl rfl ?_
    refine v_iload (n := 170) dX5_copy_168 5 rfl rfl ?_
    refine v_icmp_ge (tgt := 227) (n := 173) dX5_copy_170 (by decide) rfl ?_ ?_
    · exact v_leaf (v_sub [5] rfl (hx  μ))
    · refine v_iload (n := 175) dX5_copy_173 6 rfl rfl ?_
      refine v_if_eq (tgt := 188) (n := 178) dX5_copy_175 (by decide) rfl ?_ ?_
      · refine v_iload (n := 190) dX5_copy_188 7 rfl rfl ?_
        exact vjn_X5_copy_190 G (lp_X5_copy_166 x1v x2v x3v x4v x5v x7v n) x1v x2v x3v x4v x5v x7v x8v x8v kk hx ih μ
      · refine v_iload (n := 180) dX5_copy_178 5 rfl rfl ?_
        refine v_iconst (n := 181) (v := 1) dX5_copy_180 ci_1 rfl ?_
        refine v_isub (n := 182) dX5_copy_181 rfl ?_
        refine v_iload (n := 184) dX5_copy_182 7 rfl rfl ?_
        refine v_isub (n := 185) dX5_copy_184 rfl ?_
        refine v_goto (tgt := 190) dX5_copy_185 (by decide) ?_
        exact vjn_X5_copy_190 G (lp_X5_copy_166 x1v x2v x3v x4v x5v x7v n) x1v x2v x3v x4v x5v x7v x8v ((x5v - (1 : Int32)) - x8v) kk hx ih μ
set_option maxRecDepth 100000 in
set_option maxHeartbeats 4000000 in
theorem vjn_X5_copy_161 (G : GG) (x1v : Int32) (x2v : Int32) (x3v : Int32) (x4v : Int32) (x5v : Int32) (s0v : Int32) (μ : Mem) : V G J_X5_copy 161 [(0, .ref (G.2.1 43)), (1, .int x1v), (2, .int x2v), (3, .int x3v), (4, .int x4v), (5, .int x5v)] [.int s0v] μ (jn_X5_copy_161 x1v x2v x3v x4v x5v s0v μ) kI := by
  rw [jn_X5_copy_161]
  refine v_istore (n := 163) [(7, .int s0v), (0, .ref (G.2.1 43)), (1, .int x1v), (2, .int x2v), (3, .int x3v), (4, .int x4v), (5, .int x5v)] dX5_copy_161 (by decide) rfl rfl ?_
  refine v_iconst (n := 164) (v := 0) dX5_copy_163 ci_0 rfl ?_
  refine v_istore (n := 166) [(8, .int (0 : Int32)), (7, .int s0v), (0, .ref (G.2.1 43)), (1, .int x1v), (2, .int x2v), (3, .int x3v), (4, .int x4v), (5, .int x5v)] dX5_copy_164 (by decide) rfl rfl ?_
  refine v_sub [2, 3, 4, 5, 6, 7, 1, 0] rfl ?_
  refine v_x1 (px := 227) (lx := (fun μ14 => [(5, .int x5v)])) (mx := (fun μ14 => μ14)) (fun kk hx => vlp_X5_copy_166 G x1v x2v x3v x4v x5v s0v kk hx FU (0 : Int32) μ) (fun μ14 => ?_)
  refine v_iload (n := 229) dX5_copy_227 0 rfl rfl ?_
  exact v_iret dX5_copy_229 rfl rfl
set_option maxRecDepth 100000 in
set_option maxHeartbeats 4000000 in
theorem vjn_X5_copy_110 (G : GG) (x1v : Int32) (x2v : Int32) (x3v : Int32) (x4v : Int32) (x5v : Int32) (s0v : Int32) (μ : Mem) : V G J_X5_copy 110 [(0, .ref (G.2.1 43)), (1, .int x1v), (2, .int x2v), (3, .int x3v), (4, .int x4v), (5, .int x5v)] [.int s0v] μ (jn_X5_copy_110 x1v x2v x3v x4v x5v s0v μ) kI := by
  rw [jn_X5_copy_110]
  refine v_istore (n := 112) [(6, .int s0v), (0, .ref (G.2.1 43)), (1, .int x1v), (2, .int x2v), (3, .int x3v), (4, .int x4v), (5, .int x5v)] dX5_copy_110 (by decide) rfl rfl ?_
  refine v_iload (n := 114) dX5_copy_112 0 rfl rfl ?_
  refine v_if_eq (tgt := 144) (n := 117) dX5_copy_114 (by decide) rfl ?_ ?_
  · refine v_aload_n (n := 145) dX5_copy_144 rfl 1 rfl rfl ?_
    refine v_iconst (n := 146) (v := 3) dX5_copy_145 ci_3 rfl ?_
    refine v_cVi (n := 149) (st := []) [.int (3 : Int32)] dX5_copy_146 (fun t ht => M_X5_fails G (3 : Int32) μ t ht) cal_X5_fails mw179 (show isO 43 5 from rfl) rfl rfl (Nat.le_of_ble_eq_true rfl) ⟨Nat.le_of_ble_eq_true rfl, Nat.le_of_ble_eq_true rfl⟩ rfl (fun x9 μ8 => ?_)
    exact v_iret dX5_copy_149 rfl rfl
  · refine v_iload (n := 119) dX5_copy_117 6 rfl rfl ?_
    refine v_aload_n (n := 120) dX5_copy_119 rfl 1 rfl rfl ?_
    refine v_getR (n := 123) (i := 3) (q2 := 45) dX5_copy_120 (show isO 43 5 from rfl) rfl fg_X5_13 rfl ?_
    refine v_iload_n (n := 124) dX5_copy_123 rfl 2 rfl rfl ?_
    refine v_iald (n := 125) dX5_copy_124 (show isA 45 4 from rfl) rfl ?_
    refine v_iload_n (n := 126) dX5_copy_125 rfl 3 rfl rfl ?_
    refine v_isub (n := 127) dX5_copy_126 rfl ?_
    refine v_icmp_gt (tgt := 144) (n := 130) dX5_copy_127 (by decide) rfl ?_ ?_
    · refine v_aload_n (n := 145) dX5_copy_144 rfl 1 rfl rfl ?_
      refine v_iconst (n := 146) (v := 3) dX5_copy_145 ci_3 rfl ?_
      refine v_cVi (n := 149) (st := []) [.int (3 : Int32)] dX5_copy_146 (fun t ht => M_X5_fails G (3 : Int32) μ t ht) cal_X5_fails mw179 (show isO 43 5 from rfl) rfl rfl (Nat.le_of_ble_eq_true rfl) ⟨Nat.le_of_ble_eq_true rfl, Nat.le_of_ble_eq_true rfl⟩ rfl (fun x11 μ10 => ?_)
      exact v_iret dX5_copy_149 rfl rfl
    · refine v_iload (n := 132) dX5_copy_130 6 rfl rfl ?_
      refine v_aload_n (n := 133) dX5_copy_132 rfl 1 rfl rfl ?_
      refine v_getR (n := 136) (i := 3) (q2 := 45) dX5_copy_133 (show isO 43 5 from rfl) rfl fg_X5_13 rfl ?_
      refine v_iload_n (n := 137) dX5_copy_136 rfl 4 rfl rfl ?_
      refine v_iald (n := 138) dX5_copy_137 (show isA 45 4 from rfl) rfl ?_
      refine v_iload (n := 140) dX5_copy_138 5 rfl rfl ?_
      refine v_isub (n := 141) dX5_copy_140 rfl ?_
      refine v_icmp_le (tgt := 150) (n := 144) dX5_copy_141 (by decide) rfl ?_ ?_
      · refine v_iload_n (n := 151) dX5_copy_150 rfl 3 rfl rfl ?_
        refine v_iload (n := 153) dX5_copy_151 5 rfl rfl ?_
        refine v_icmp_ge (tgt := 160) (n := 156) dX5_copy_153 (by decide) rfl ?_ ?_
        · refine v_iconst (n := 161) (v := 0) dX5_copy_160 ci_0 rfl ?_
          exact v_sub [1, 2, 3, 4, 5, 6] rfl (vjn_X5_copy_161 G x1v x2v x3v x4v x5v (0 : Int32) μ)
        · refine v_iconst (n := 157) (v := 1) dX5_copy_156 ci_1 rfl ?_
          refine v_goto (tgt := 161) dX5_copy_157 (by decide) ?_
          exact v_sub [1, 2, 3, 4, 5, 6] rfl (vjn_X5_copy_161 G x1v x2v x3v x4v x5v (1 : Int32) μ)
      · refine v_aload_n (n := 145) dX5_copy_144 rfl 1 rfl rfl ?_
        refine v_iconst (n := 146) (v := 3) dX5_copy_145 ci_3 rfl ?_
        refine v_cVi (n := 149) (st := []) [.int (3 : Int32)] dX5_copy_146 (fun t ht => M_X5_fails G (3 : Int32) μ t ht) cal_X5_fails mw179 (show isO 43 5 from rfl) rfl rfl (Nat.le_of_ble_eq_true rfl) ⟨Nat.le_of_ble_eq_true rfl, Nat.le_of_ble_eq_true rfl⟩ rfl (fun x16 μ15 => ?_)
        exact v_iret dX5_copy_149 rfl rfl
set_option maxRecDepth 100000 in
set_option maxHeartbeats 4000000 in
theorem vjn_X5_copy_109 (G : GG) (x1v : Int32) (x2v : Int32) (x3v : Int32) (x4v : Int32) (x5v : Int32) (μ : Mem) : V G J_X5_copy 109 [(0, .ref (G.2.1 43)), (1, .int x1v), (2, .int x2v), (3, .int x3v), (4, .int x4v), (5, .int x5v)] [] μ (jn_X5_copy_109 x1v x2v x3v x4v x5v μ) kI := by
  rw [jn_X5_copy_109]
  refine v_iconst (n := 110) (v := 0) dX5_copy_109 ci_0 rfl ?_
  exact vjn_X5_copy_110 G x1v x2v x3v x4v x5v (0 : Int32) μ
set_option maxRecDepth 100000 in
set_option maxHeartbeats 4000000 in
theorem v_X5_copy (G : GG) (a1 : Int32) (a2 : Int32) (a3 : Int32) (a4 : Int32) (a5 : Int32) (μ : Mem) : V G J_X5_copy 0 [(0, .ref (G.2.1 43)), (1, .int a1), (2, .int a2), (3, .int a3), (4, .int a4), (5, .int a5)] [] μ (f_X5_copy a1 a2 a3 a4 a5 μ) kI := by
  rw [f_X5_copy]
  refine v_aload_n (n := 1) dX5_copy_0 rfl 0 rfl rfl ?_
  refine v_iconst (n := 2) (v := 0) dX5_copy_1 ci_0 rfl ?_
  refine v_put (n := 5) (i := 0) dX5_copy_2 (show isO 43 5 from rfl) rfl fp_X5_70 rfl rfl rfl ?_
  refine v_lm (fun μ1 => ?_)
  refine v_iload_n (n := 6) dX5_copy_5 rfl 1 rfl rfl ?_
  refine v_cSi (n := 9) (st := []) [.int a1] dX5_copy_6 (fun t ht => M_X5_isSheet G a1 μ1 t ht) cal_X5_isSheet mw166 rfl rfl (Nat.le_of_ble_eq_true rfl) ⟨Nat.le_of_ble_eq_true rfl, Nat.le_of_ble_eq_true rfl⟩ rfl (fun x3 μ2 => ?_)
  refine v_if_eq (tgt := 19) (n := 12) dX5_copy_9 (by decide) rfl ?_ ?_
  · refine v_iconst (n := 20) (v := -1) dX5_copy_19 ci_m1 rfl ?_
    exact v_iret dX5_copy_20 rfl rfl
  · refine v_iload_n (n := 13) dX5_copy_12 rfl 3 rfl rfl ?_
    refine v_cSi (n := 16) (st := []) [.int a3] dX5_copy_13 (fun t ht => M_X5_isSheet G a3 μ2 t ht) cal_X5_isSheet mw166 rfl rfl (Nat.le_of_ble_eq_true rfl) ⟨Nat.le_of_ble_eq_true rfl, Nat.le_of_ble_eq_true rfl⟩ rfl (fun x5 μ4 => ?_)
    refine v_if_ne (tgt := 21) (n := 19) dX5_copy_16 (by decide) rfl ?_ ?_
    · refine v_iconst (n := 20) (v := -1) dX5_copy_19 ci_m1 rfl ?_
      exact v_iret dX5_copy_20 rfl rfl
    · refine v_aload_n (n := 22) dX5_copy_21 rfl 0 rfl rfl ?_
      refine v_getR (n := 25) (i := 2) (q2 := 44) dX5_copy_22 (show isO 43 5 from rfl) rfl fg_X5_9 rfl ?_
      refine v_iload_n (n := 26) dX5_copy_25 rfl 1 rfl rfl ?_
      refine v_iald (n := 27) dX5_copy_26 (show isA 44 4 from rfl) rfl ?_
      refine v_bipush (n := 29) (v := -9) dX5_copy_27 cb_m9 rfl ?_
      refine v_icmp_eq (tgt := 43) (n := 32) dX5_copy_29 (by decide) rfl ?_ ?_
      · refine v_aload_n (n := 44) dX5_copy_43 rfl 0 rfl rfl ?_
        refine v_iconst (n := 45) (v := 1) dX5_copy_44 ci_1 rfl ?_
        refine v_cVi (n := 48) (st := []) [.int (1 : Int32)] dX5_copy_45 (fun t ht => M_X5_fails G (1 : Int32) μ4 t ht) cal_X5_fails mw179 (show isO 43 5 from rfl) rfl rfl (Nat.le_of_ble_eq_true rfl) ⟨Nat.le_of_ble_eq_true rfl, Nat.le_of_ble_eq_true rfl⟩ rfl (fun x7 μ6 => ?_)
        exact v_iret dX5_copy_48 rfl rfl
      · refine v_aload_n (n := 33) dX5_copy_32 rfl 0 rfl rfl ?_
        refine v_getR (n := 36) (i := 2) (q2 := 44) dX5_copy_33 (show isO 43 5 from rfl) rfl fg_X5_9 rfl ?_
        refine v_iload_n (n := 37) dX5_copy_36 rfl 3 rfl rfl ?_
        refine v_iald (n := 38) dX5_copy_37 (show isA 44 4 from rfl) rfl ?_
        refine v_bipush (n := 40) (v := -9) dX5_copy_38 cb_m9 rfl ?_
        refine v_icmp_ne (tgt := 49) (n := 43) dX5_copy_40 (by decide) rfl ?_ ?_
        · refine v_aload_n (n := 44) dX5_copy_43 rfl 0 rfl rfl ?_
          refine v_iconst (n := 45) (v := 1) dX5_copy_44 ci_1 rfl ?_
          refine v_cVi (n := 48) (st := []) [.int (1 : Int32)] dX5_copy_45 (fun t ht => M_X5_fails G (1 : Int32) μ4 t ht) cal_X5_fails mw179 (show isO 43 5 from rfl) rfl rfl (Nat.le_of_ble_eq_true rfl) ⟨Nat.le_of_ble_eq_true rfl, Nat.le_of_ble_eq_true rfl⟩ rfl (fun x20 μ19 => ?_)
          exact v_iret dX5_copy_48 rfl rfl
        · refine v_aload_n (n := 50) dX5_copy_49 rfl 0 rfl rfl ?_
          refine v_getR (n := 53) (i := 2) (q2 := 44) dX5_copy_50 (show isO 43 5 from rfl) rfl fg_X5_9 rfl ?_
          refine v_iload_n (n := 54) dX5_copy_53 rfl 1 rfl rfl ?_
          refine v_iald (n := 55) dX5_copy_54 (show isA 44 4 from rfl) rfl ?_
          refine v_aload_n (n := 56) dX5_copy_55 rfl 0 rfl rfl ?_
          refine v_getR (n := 59) (i := 2) (q2 := 44) dX5_copy_56 (show isO 43 5 from rfl) rfl fg_X5_9 rfl ?_
          refine v_iload_n (n := 60) dX5_copy_59 rfl 3 rfl rfl ?_
          refine v_iald (n := 61) dX5_copy_60 (show isA 44 4 from rfl) rfl ?_
          refine v_icmp_eq (tgt := 70) (n := 64) dX5_copy_61 (by decide) rfl ?_ ?_
          · refine v_iload_n (n := 71) dX5_copy_70 rfl 2 rfl rfl ?_
            refine v_if_lt (tgt := 109) (n := 74) dX5_copy_71 (by decide) rfl ?_ ?_
            · exact vjn_X5_copy_109 G a1 a2 a3 a4 a5 μ4
            · refine v_iload (n := 76) dX5_copy_74 4 rfl rfl ?_
              refine v_if_lt (tgt := 109) (n := 79) dX5_copy_76 (by decide) rfl ?_ ?_
              · exact vjn_X5_copy_109 G a1 a2 a3 a4 a5 μ4
              · refine v_iload (n := 81) dX5_copy_79 5 rfl rfl ?_
                refine v_if_lt (tgt := 109) (n := 84) dX5_copy_81 (by decide) rfl ?_ ?_
                · exact vjn_X5_copy_109 G a1 a2 a3 a4 a5 μ4
                · refine v_iload_n (n := 85) dX5_copy_84 rfl 2 rfl rfl ?_
                  refine v_aload_n (n := 86) dX5_copy_85 rfl 0 rfl rfl ?_
                  refine v_getR (n := 89) (i := 3) (q2 := 45) dX5_copy_86 (show isO 43 5 from rfl) rfl fg_X5_13 rfl ?_
                  refine v_iload_n (n := 90) dX5_copy_89 rfl 1 rfl rfl ?_
                  refine v_iald (n := 91) dX5_copy_90 (show isA 45 4 from rfl) rfl ?_
                  refine v_icmp_gt (tgt := 109) (n := 94) dX5_copy_91 (by decide) rfl ?_ ?_
                  · exact vjn_X5_copy_109 G a1 a2 a3 a4 a5 μ4
                  · refine v_iload (n := 96) dX5_copy_94 4 rfl rfl ?_
                    refine v_aload_n (n := 97) dX5_copy_96 rfl 0 rfl rfl ?_
                    refine v_getR (n := 100) (i := 3) (q2 := 45) dX5_copy_97 (show isO 43 5 from rfl) rfl fg_X5_13 rfl ?_
                    refine v_iload_n (n := 101) dX5_copy_100 rfl 3 rfl rfl ?_
                    refine v_iald (n := 102) dX5_copy_101 (show isA 45 4 from rfl) rfl ?_
                    refine v_icmp_gt (tgt := 109) (n := 105) dX5_copy_102 (by decide) rfl ?_ ?_
                    · exact vjn_X5_copy_109 G a1 a2 a3 a4 a5 μ4
                    · refine v_iconst (n := 106) (v := 1) dX5_copy_105 ci_1 rfl ?_
                      refine v_goto (tgt := 110) dX5_copy_106 (by decide) ?_
                      exact vjn_X5_copy_110 G a1 a2 a3 a4 a5 (1 : Int32) μ4
          · refine v_aload_n (n := 65) dX5_copy_64 rfl 0 rfl rfl ?_
            refine v_iconst (n := 66) (v := 2) dX5_copy_65 ci_2 rfl ?_
            refine v_cVi (n := 69) (st := []) [.int (2 : Int32)] dX5_copy_66 (fun t ht => M_X5_fails G (2 : Int32) μ4 t ht) cal_X5_fails mw179 (show isO 43 5 from rfl) rfl rfl (Nat.le_of_ble_eq_true rfl) ⟨Nat.le_of_ble_eq_true rfl, Nat.le_of_ble_eq_true rfl⟩ rfl (fun x18 μ17 => ?_)
            exact v_iret dX5_copy_69 rfl rfl
theorem M_X5_copy (G : GG) (a1 : Int32) (a2 : Int32) (a3 : Int32) (a4 : Int32) (a5 : Int32) (μ : Mem) (t : Int32 × Mem) (ht : f_X5_copy a1 a2 a3 a4 a5 μ = some t) : GM G J_X5_copy yX5_copy [.ref (G.2.1 43), .int a1, .int a2, .int a3, .int a4, .int a5] μ (oI t) :=
  gm_of (J := J_X5_copy) (k := kI) rfl (by decide) (Nat.le_of_ble_eq_true rfl) (v_X5_copy G a1 a2 a3 a4 a5 μ) ht rfl
set_option maxRecDepth 100000 in
set_option maxHeartbeats 4000000 in
theorem v_X5_begins (G : GG) (a1 : Int32) (μ : Mem) : V G J_X5_begins 0 [(0, .ref (G.2.1 43)), (1, .int a1)] [] μ (f_X5_begins a1 μ) kV := by
  rw [f_X5_begins]
  refine v_aload_n (n := 1) dX5_begins_0 rfl 0 rfl rfl ?_
  refine v_bipush (n := 3) (v := 31) dX5_begins_1 cb_31 rfl ?_
  refine v_aload_n (n := 4) dX5_begins_3 rfl 0 rfl rfl ?_
  refine v_getI (n := 7) (i := 1) dX5_begins_4 (show isO 43 5 from rfl) rfl fg_X5_222 rfl ?_
  refine v_imul (n := 8) dX5_begins_7 rfl ?_
  refine v_iload_n (n := 9) dX5_begins_8 rfl 1 rfl rfl ?_
  refine v_iadd (n := 10) dX5_begins_9 rfl ?_
  refine v_put (n := 13) (i := 1) dX5_begins_10 (show isO 43 5 from rfl) rfl fp_X5_222 rfl rfl rfl ?_
  refine v_lm (fun μ1 => ?_)
  exact v_vret dX5_begins_13 rfl rfl
theorem M_X5_begins (G : GG) (a1 : Int32) (μ : Mem) (t : Mem) (ht : f_X5_begins a1 μ = some t) : GM G J_X5_begins yX5_begins [.ref (G.2.1 43), .int a1] μ (oV t) :=
  gm_of (J := J_X5_begins) (k := kV) rfl (by decide) (Nat.le_of_ble_eq_true rfl) (v_X5_begins G a1 μ) ht rfl
set_option maxRecDepth 100000 in
set_option maxHeartbeats 4000000 in
theorem v_X5_tell (G : GG) (a1 : Int32) (μ : Mem) : V G J_X5_tell 0 [(0, .ref (G.2.1 43)), (1, .int a1)] [] μ (f_X5_tell a1 μ) kI := by
  rw [f_X5_tell]
  refine v_aload_n (n := 1) dX5_tell_0 rfl 0 rfl rfl ?_
  refine v_iload_n (n := 2) dX5_tell_1 rfl 1 rfl rfl ?_
  refine v_cVi (n := 5) (st := []) [.int a1] dX5_tell_2 (fun t ht => M_X5_isLeft G a1 μ t ht) cal_X5_isLeft mw198 (show isO 43 5 from rfl) rfl rfl (Nat.le_of_ble_eq_true rfl) ⟨Nat.le_of_ble_eq_true rfl, Nat.le_of_ble_eq_true rfl⟩ rfl (fun x2 μ1 => ?_)
  refine v_if_ne (tgt := 10) (n := 8) dX5_tell_5 (by decide) rfl ?_ ?_
  · refine v_iconst (n := 9) (v := -1) dX5_tell_8 ci_m1 rfl ?_
    exact v_iret dX5_tell_9 rfl rfl
  · refine v_aload_n (n := 11) dX5_tell_10 rfl 0 rfl rfl ?_
    refine v_getR (n := 14) (i := 11) (q2 := 48) dX5_tell_11 (show isO 43 5 from rfl) rfl fg_X5_22 rfl ?_
    refine v_iload_n (n := 15) dX5_tell_14 rfl 1 rfl rfl ?_
    refine v_iald (n := 16) dX5_tell_15 (show isA 48 7 from rfl) rfl ?_
    refine v_lt (fun x3 => ?_)
    refine v_istore_n (n := 17) [(2, .int x3), (0, .ref (G.2.1 43)), (1, .int a1)] dX5_tell_16 rfl (by decide) rfl rfl ?_
    refine v_aload_n (n := 18) dX5_tell_17 rfl 1 rfl rfl ?_
    refine v_getR (n := 21) (i := 10) (q2 := 47) dX5_tell_18 (show isO 43 5 from rfl) rfl fg_X5_19 rfl ?_
    refine v_iload_n (n := 22) dX5_tell_21 rfl 2 rfl rfl ?_
    refine v_iald (n := 23) dX5_tell_22 (show isA 47 7 from rfl) rfl ?_
    refine v_lt (fun x4 => ?_)
    refine v_swif ?_ (fun hs0 => ?_)
    · refine v_lkp (tgt := 48) dX5_tell_23 (by decide) rfl (by decide) ?_
      refine v_aload_n (n := 49) dX5_tell_48 rfl 1 rfl rfl ?_
      refine v_iconst (n := 50) (v := 2) dX5_tell_49 ci_2 rfl ?_
      refine v_cVv (n := 53) (st := []) [.int (2 : Int32)] dX5_tell_50 (fun t ht => M_X5_begins G (2 : Int32) μ1 t ht) cal_X5_begins mw217 (show isO 43 5 from rfl) rfl rfl (Nat.le_of_ble_eq_true rfl) ⟨Nat.le_of_ble_eq_true rfl, Nat.le_of_ble_eq_true rfl⟩ rfl (fun μ5 => ?_)
      refine v_aload_n (n := 54) dX5_tell_53 rfl 1 rfl rfl ?_
      refine v_iconst (n := 55) (v := 1) dX5_tell_54 ci_1 rfl ?_
      refine v_cVv (n := 58) (st := []) [.int (1 : Int32)] dX5_tell_55 (fun t ht => M_X5_begins G (1 : Int32) μ5 t ht) cal_X5_begins mw217 (show isO 43 5 from rfl) rfl rfl (Nat.le_of_ble_eq_true rfl) ⟨Nat.le_of_ble_eq_true rfl, Nat.le_of_ble_eq_true rfl⟩ rfl (fun μ6 => ?_)
      refine v_iload_n (n := 59) dX5_tell_58 rfl 0 rfl rfl ?_
      refine v_bipush (n := 61) (v := 100) dX5_tell_59 cb_100 rfl ?_
      refine v_iadd (n := 62) dX5_tell_61 rfl ?_
      exact v_iret dX5_tell_62 rfl rfl
    refine v_swif ?_ (fun hs1 => ?_)
    · refine v_lkp (tgt := 63) dX5_tell_23 (by decide) rfl (by decide) ?_
      refine v_aload_n (n := 64) dX5_tell_63 rfl 1 rfl rfl ?_
      refine v_iconst (n := 65) (v := 3) dX5_tell_64 ci_3 rfl ?_
      refine v_cVv (n := 68) (st := []) [.int (3 : Int32)] dX5_tell_65 (fun t ht => M_X5_begins G (3 : Int32) μ1 t ht) cal_X5_begins mw217 (show isO 43 5 from rfl) rfl rfl (Nat.le_of_ble_eq_true rfl) ⟨Nat.le_of_ble_eq_true rfl, Nat.le_of_ble_eq_true rfl⟩ rfl (fun μ7 => ?_)
      refine v_aload_n (n := 69) dX5_tell_68 rfl 1 rfl rfl ?_
      refine v_iconst (n := 70) (v := 2) dX5_tell_69 ci_2 rfl ?_
      refine v_cVv (n := 73) (st := []) [.int (2 : Int32)] dX5_tell_70 (fun t ht => M_X5_begins G (2 : Int32) μ7 t ht) cal_X5_begins mw217 (show isO 43 5 from rfl) rfl rfl (Nat.le_of_ble_eq_true rfl) ⟨Nat.le_of_ble_eq_true rfl, Nat.le_of_ble_eq_true rfl⟩ rfl (fun μ8 => ?_)
      refine v_aload_n (n := 74) dX5_tell_73 rfl 1 rfl rfl ?_
      refine v_iconst (n := 75) (v := 1) dX5_tell_74 ci_1 rfl ?_
      refine v_cVv (n := 78) (st := []) [.int (1 : Int32)] dX5_tell_75 (fun t ht => M_X5_begins G (1 : Int32) μ8 t ht) cal_X5_begins mw217 (show isO 43 5 from rfl) rfl rfl (Nat.le_of_ble_eq_true rfl) ⟨Nat.le_of_ble_eq_true rfl, Nat.le_of_ble_eq_true rfl⟩ rfl (fun μ9 => ?_)
      refine v_aload_n (n := 79) dX5_tell_78 rfl 1 rfl rfl ?_
      refine v_iconst (n := 80) (v := 1) dX5_tell_79 ci_1 rfl ?_
      refine v_cVv (n := 83) (st := []) [.int (1 : Int32)] dX5_tell_80 (fun t ht => M_X5_begins G (1 : Int32) μ9 t ht) cal_X5_begins mw217 (show isO 43 5 from rfl) rfl rfl (Nat.le_of_ble_eq_true rfl) ⟨Nat.le_of_ble_eq_true rfl, Nat.le_of_ble_eq_true rfl⟩ rfl (fun μ10 => ?_)
      refine v_iconst (n := 84) (v := 2) dX5_tell_83 ci_2 rfl ?_
      refine v_iload_n (n := 85) dX5_tell_84 rfl 0 rfl rfl ?_
      refine v_imul (n := 86) dX5_tell_85 rfl ?_
      refine v_bipush (n := 88) (v := 100) dX5_tell_86 cb_100 rfl ?_
      refine v_iadd (n := 89) dX5_tell_88 rfl ?_
      exact v_iret dX5_tell_89 rfl rfl
    refine v_lkp (tgt := 90) (off := 67) dX5_tell_23 (by decide) (by show Op.lookupswitch.offset _ _ _ = _; rw [lv_osw hs0 (by decide : (1 : Int32).toInt = 1), lv_osw hs1 (by decide : (2 : Int32).toInt = 2)]; rfl) (by decide) ?_
    refine v_aload_n (n := 91) dX5_tell_90 rfl 1 rfl rfl ?_
    refine v_iconst (n := 92) (v := 1) dX5_tell_91 ci_1 rfl ?_
    refine v_cVv (n := 95) (st := []) [.int (1 : Int32)] dX5_tell_92 (fun t ht => M_X5_begins G (1 : Int32) μ1 t ht) cal_X5_begins mw217 (show isO 43 5 from rfl) rfl rfl (Nat.le_of_ble_eq_true rfl) ⟨Nat.le_of_ble_eq_true rfl, Nat.le_of_ble_eq_true rfl⟩ rfl (fun μ11 => ?_)
    refine v_iload_n (n := 96) dX5_tell_95 rfl 0 rfl rfl ?_
    exact v_iret dX5_tell_96 rfl rfl
theorem M_X5_tell (G : GG) (a1 : Int32) (μ : Mem) (t : Int32 × Mem) (ht : f_X5_tell a1 μ = some t) : GM G J_X5_tell yX5_tell [.ref (G.2.1 43), .int a1] μ (oI t) :=
  gm_of (J := J_X5_tell) (k := kI) rfl (by decide) (Nat.le_of_ble_eq_true rfl) (v_X5_tell G a1 μ) ht rfl
set_option maxRecDepth 100000 in
set_option maxHeartbeats 4000000 in
theorem vjn_X5_read_25 (G : GG) (x1v : Int32) (μ : Mem) : V G J_X5_read 25 [(0, .ref (G.2.1 43)), (1, .int x1v)] [] μ (jn_X5_read_25 x1v μ) kI := by
  rw [jn_X5_read_25]
  refine v_aload_n (n := 26) dX5_read_25 rfl 0 rfl rfl ?_
  refine v_iconst (n := 27) (v := 4) dX5_read_26 ci_4 rfl ?_
  refine v_cVv (n := 30) (st := []) [.int (4 : Int32)] dX5_read_27 (fun t ht => M_X5_begins G (4 : Int32) μ t ht) cal_X5_begins mw217 (show isO 43 5 from rfl) rfl rfl (Nat.le_of_ble_eq_true rfl) ⟨Nat.le_of_ble_eq_true rfl, Nat.le_of_ble_eq_true rfl⟩ rfl (fun μ3 => ?_)
  refine v_aload_n (n := 31) dX5_read_30 rfl 0 rfl rfl ?_
  refine v_getR (n := 34) (i := 10) (q2 := 47) dX5_read_31 (show isO 43 5 from rfl) rfl fg_X5_19 rfl ?_
  refine v_iload_n (n := 35) dX5_read_34 rfl 1 rfl rfl ?_
  refine v_iald (n := 36) dX5_read_35 (show isA 47 7 from rfl) rfl ?_
  refine v_iconst (n := 37) (v := 2) dX5_read_36 ci_2 rfl ?_
  refine v_icmp_ne (tgt := 52) (n := 40) dX5_read_37 (by decide) rfl ?_ ?_
  · refine v_aload_n (n := 41) dX5_read_40 rfl 0 rfl rfl ?_
    refine v_getR (n := 44) (i := 12) (q2 := 49) dX5_read_41 (show isO 43 5 from rfl) rfl fg_X5_25 rfl ?_
    refine v_iload_n (n := 45) dX5_read_44 rfl 1 rfl rfl ?_
    refine v_iald (n := 46) dX5_read_45 (show isA 49 7 from rfl) rfl ?_
    refine v_bipush (n := 48) (v := 80) dX5_read_46 cb_80 rfl ?_
    refine v_iadd (n := 49) dX5_read_48 rfl ?_
    refine v_goto (tgt := 58) dX5_read_49 (by decide) ?_
    exact v_iret dX5_read_58 rfl rfl
  · refine v_aload_n (n := 53) dX5_read_52 rfl 0 rfl rfl ?_
    refine v_getR (n := 56) (i := 12) (q2 := 49) dX5_read_53 (show isO 43 5 from rfl) rfl fg_X5_25 rfl ?_
    refine v_iload_n (n := 57) dX5_read_56 rfl 1 rfl rfl ?_
    refine v_iald (n := 58) dX5_read_57 (show isA 49 7 from rfl) rfl ?_
    exact v_iret dX5_read_58 rfl rfl
set_option maxRecDepth 100000 in
set_option maxHeartbeats 4000000 in
theorem v_X5_read (G : GG) (a1 : Int32) (μ : Mem) : V G J_X5_read 0 [(0, .ref (G.2.1 43)), (1, .int a1)] [] μ (f_X5_read a1 μ) kI := by
  rw [f_X5_read]
  refine v_aload_n (n := 1) dX5_read_0 rfl 0 rfl rfl ?_
  refine v_iload_n (n := 2) dX5_read_1 rfl 1 rfl rfl ?_
  refine v_cVi (n := 5) (st := []) [.int a1] dX5_read_2 (fun t ht => M_X5_isLeft G a1 μ t ht) cal_X5_isLeft mw198 (show isO 43 5 from rfl) rfl rfl (Nat.le_of_ble_eq_true rfl) ⟨Nat.le_of_ble_eq_true rfl, Nat.le_of_ble_eq_true rfl⟩ rfl (fun x2 μ1 => ?_)
  refine v_if_ne (tgt := 10) (n := 8) dX5_read_5 (by decide) rfl ?_ ?_
  · refine v_iconst (n := 9) (v := -1) dX5_read_8 ci_m1 rfl ?_
    exact v_iret dX5_read_9 rfl rfl
  · refine v_aload_n (n := 11) dX5_read_10 rfl 0 rfl rfl ?_
    refine v_getR (n := 14) (i := 10) (q2 := 47) dX5_read_11 (show isO 43 5 from rfl) rfl fg_X5_19 rfl ?_
    refine v_iload_n (n := 15) dX5_read_14 rfl 1 rfl rfl ?_
    refine v_iald (n := 16) dX5_read_15 (show isA 47 7 from rfl) rfl ?_
    refine v_iconst (n := 17) (v := 2) dX5_read_16 ci_2 rfl ?_
    refine v_icmp_ne (tgt := 25) (n := 20) dX5_read_17 (by decide) rfl ?_ ?_
    · refine v_aload_n (n := 21) dX5_read_20 rfl 0 rfl rfl ?_
      refine v_iconst (n := 22) (v := 5) dX5_read_21 ci_5 rfl ?_
      refine v_cVv (n := 25) (st := []) [.int (5 : Int32)] dX5_read_22 (fun t ht => M_X5_begins G (5 : Int32) μ1 t ht) cal_X5_begins mw217 (show isO 43 5 from rfl) rfl rfl (Nat.le_of_ble_eq_true rfl) ⟨Nat.le_of_ble_eq_true rfl, Nat.le_of_ble_eq_true rfl⟩ rfl (fun μ4 => ?_)
      exact vjn_X5_read_25 G a1 μ4
    · exact vjn_X5_read_25 G a1 μ1
theorem M_X5_read (G : GG) (a1 : Int32) (μ : Mem) (t : Int32 × Mem) (ht : f_X5_read a1 μ = some t) : GM G J_X5_read yX5_read [.ref (G.2.1 43), .int a1] μ (oI t) :=
  gm_of (J := J_X5_read) (k := kI) rfl (by decide) (Nat.le_of_ble_eq_true rfl) (v_X5_read G a1 μ) ht rfl
set_option maxRecDepth 100000 in
set_option maxHeartbeats 4000000 in
theorem v_X5_as (G : GG) (a1 : Int32) (a2 : Int32) (μ : Mem) : V G J_X5_as 0 [(0, .ref (G.2.1 43)), (1, .int a1), (2, .int a2)] [] μ (f_X5_as a1 a2 μ) kI := by
  rw [f_X5_as]
  refine v_aload_n (n := 1) dX5_as_0 rfl 0 rfl rfl ?_
  refine v_iconst (n := 2) (v := 0) dX5_as_1 ci_0 rfl ?_
  refine v_put (n := 5) (i := 0) dX5_as_2 (show isO 43 5 from rfl) rfl fp_X5_70 rfl rfl rfl ?_
  refine v_lm (fun μ1 => ?_)
  refine v_aload_n (n := 6) dX5_as_5 rfl 0 rfl rfl ?_
  refine v_iload_n (n := 7) dX5_as_6 rfl 1 rfl rfl ?_
  refine v_cVi (n := 10) (st := []) [.int a1] dX5_as_7 (fun t ht => M_X5_isLeft G a1 μ1 t ht) cal_X5_isLeft mw198 (show isO 43 5 from rfl) rfl rfl (Nat.le_of_ble_eq_true rfl) ⟨Nat.le_of_ble_eq_true rfl, Nat.le_of_ble_eq_true rfl⟩ rfl (fun x3 μ2 => ?_)
  refine v_if_ne (tgt := 15) (n := 13) dX5_as_10 (by decide) rfl ?_ ?_
  · refine v_iconst (n := 14) (v := -1) dX5_as_13 ci_m1 rfl ?_
    exact v_iret dX5_as_14 rfl rfl
  · refine v_iload_n (n := 16) dX5_as_15 rfl 2 rfl rfl ?_
    refine v_iconst (n := 17) (v := 0) dX5_as_16 ci_0 rfl ?_
    refine v_iconst (n := 18) (v := 2) dX5_as_17 ci_2 rfl ?_
    refine v_cSi (n := 21) (st := []) [.int a2, .int (0 : Int32), .int (2 : Int32)] dX5_as_18 (fun t ht => M_X5_within G a2 (0 : Int32) (2 : Int32) μ2 t ht) cal_X5_within mw151 rfl rfl (Nat.le_of_ble_eq_true rfl) ⟨Nat.le_of_ble_eq_true rfl, Nat.le_of_ble_eq_true rfl⟩ rfl (fun x5 μ4 => ?_)
    refine v_if_ne (tgt := 27) (n := 24) dX5_as_21 (by decide) rfl ?_ ?_
    · refine v_bipush (n := 26) (v := -2) dX5_as_24 cb_m2 rfl ?_
      exact v_iret dX5_as_26 rfl rfl
    · refine v_aload_n (n := 28) dX5_as_27 rfl 0 rfl rfl ?_
      refine v_getR (n := 31) (i := 10) (q2 := 47) dX5_as_28 (show isO 43 5 from rfl) rfl fg_X5_19 rfl ?_
      refine v_iload_n (n := 32) dX5_as_31 rfl 1 rfl rfl ?_
      refine v_iald (n := 33) dX5_as_32 (show isA 47 7 from rfl) rfl ?_
      refine v_iload_n (n := 34) dX5_as_33 rfl 2 rfl rfl ?_
      refine v_icmp_lt (tgt := 41) (n := 37) dX5_as_34 (by decide) rfl ?_ ?_
      · refine v_aload_n (n := 42) dX5_as_41 rfl 0 rfl rfl ?_
        refine v_iconst (n := 43) (v := 2) dX5_as_42 ci_2 rfl ?_
        refine v_cVi (n := 46) (st := []) [.int (2 : Int32)] dX5_as_43 (fun t ht => M_X5_fails G (2 : Int32) μ4 t ht) cal_X5_fails mw179 (show isO 43 5 from rfl) rfl rfl (Nat.le_of_ble_eq_true rfl) ⟨Nat.le_of_ble_eq_true rfl, Nat.le_of_ble_eq_true rfl⟩ rfl (fun x7 μ6 => ?_)
        exact v_iret dX5_as_46 rfl rfl
      · refine v_iconst (n := 38) (v := 1) dX5_as_37 ci_1 rfl ?_
        refine v_goto (tgt := 46) dX5_as_38 (by decide) ?_
        exact v_iret dX5_as_46 rfl rfl
theorem M_X5_as (G : GG) (a1 : Int32) (a2 : Int32) (μ : Mem) (t : Int32 × Mem) (ht : f_X5_as a1 a2 μ = some t) : GM G J_X5_as yX5_as [.ref (G.2.1 43), .int a1, .int a2] μ (oI t) :=
  gm_of (J := J_X5_as) (k := kI) rfl (by decide) (Nat.le_of_ble_eq_true rfl) (v_X5_as G a1 a2 μ) ht rfl
set_option maxRecDepth 100000 in
set_option maxHeartbeats 4000000 in
theorem v_X5_trace (G : GG) (μ : Mem) : V G J_X5_trace 0 [(0, .ref (G.2.1 43))] [] μ (f_X5_trace μ) kI := by
  rw [f_X5_trace]
  refine v_aload_n (n := 1) dX5_trace_0 rfl 0 rfl rfl ?_
  refine v_getI (n := 4) (i := 1) dX5_trace_1 (show isO 43 5 from rfl) rfl fg_X5_222 rfl ?_
  exact v_iret dX5_trace_4 rfl rfl
theorem M_X5_trace (G : GG) (μ : Mem) (t : Int32 × Mem) (ht : f_X5_trace μ = some t) : GM G J_X5_trace yX5_trace [.ref (G.2.1 43)] μ (oI t) :=
  gm_of (J := J_X5_trace) (k := kI) rfl (by decide) (Nat.le_of_ble_eq_true rfl) (v_X5_trace G μ) ht rfl
set_option maxRecDepth 100000 in
set_option maxHeartbeats 4000000 in
theorem v_X5_fault (G : GG) (μ : Mem) : V G J_X5_fault 0 [(0, .ref (G.2.1 43))] [] μ (f_X5_fault μ) kI := by
  rw [f_X5_fault]
  refine v_aload_n (n := 1) dX5_fault_0 rfl 0 rfl rfl ?_
  refine v_getI (n := 4) (i := 0) dX5_fault_1 (show isO 43 5 from rfl) rfl fg_X5_70 rfl ?_
  exact v_iret dX5_fault_4 rfl rfl
theorem M_X5_fault (G : GG) (μ : Mem) (t : Int32 × Mem) (ht : f_X5_fault μ = some t) : GM G J_X5_fault yX5_fault [.ref (G.2.1 43)] μ (oI t) :=
  gm_of (J := J_X5_fault) (k := kI) rfl (by decide) (Nat.le_of_ble_eq_true rfl) (v_X5_fault G μ) ht rfl
set_option maxRecDepth 100000 in
set_option maxHeartbeats 4000000 in
theorem v_X5_many (G : GG) (a1 : Int32) (μ : Mem) : V G J_X5_many 0 [(0, .ref (G.2.1 43)), (1, .int a1)] [] μ (f_X5_many a1 μ) kI := by
  rw [f_X5_many]
  refine v_iload_n (n := 1) dX5_many_0 rfl 1 rfl rfl ?_
  refine v_swif ?_ (fun hs0 => ?_)
  · refine v_tblI (tgt := 40) dX5_many_1 (by decide) (by decide) rfl (by decide) ?_
    refine v_aload_n (n := 41) dX5_many_40 rfl 0 rfl rfl ?_
    refine v_getI (n := 44) (i := 5) dX5_many_41 (show isO 43 5 from rfl) rfl fg_X5_80 rfl ?_
    exact v_iret dX5_many_44 rfl rfl
  refine v_swif ?_ (fun hs1 => ?_)
  · refine v_tblI (tgt := 45) dX5_many_1 (by decide) (by decide) rfl (by decide) ?_
    refine v_aload_n (n := 46) dX5_many_45 rfl 0 rfl rfl ?_
    refine v_getI (n := 49) (i := 6) dX5_many_46 (show isO 43 5 from rfl) rfl fg_X5_83 rfl ?_
    exact v_iret dX5_many_49 rfl rfl
  refine v_swif ?_ (fun hs2 => ?_)
  · refine v_tblI (tgt := 50) dX5_many_1 (by decide) (by decide) rfl (by decide) ?_
    refine v_aload_n (n := 51) dX5_many_50 rfl 0 rfl rfl ?_
    refine v_getI (n := 54) (i := 7) dX5_many_51 (show isO 43 5 from rfl) rfl fg_X5_113 rfl ?_
    exact v_iret dX5_many_54 rfl rfl
  refine v_swif ?_ (fun hs3 => ?_)
  · refine v_tblI (tgt := 55) dX5_many_1 (by decide) (by decide) rfl (by decide) ?_
    refine v_aload_n (n := 56) dX5_many_55 rfl 0 rfl rfl ?_
    refine v_getI (n := 59) (i := 8) dX5_many_56 (show isO 43 5 from rfl) rfl fg_X5_116 rfl ?_
    exact v_iret dX5_many_59 rfl rfl
  refine v_swif ?_ (fun hs4 => ?_)
  · refine v_tblI (tgt := 60) dX5_many_1 (by decide) (by decide) rfl (by decide) ?_
    refine v_aload_n (n := 61) dX5_many_60 rfl 0 rfl rfl ?_
    refine v_getI (n := 64) (i := 9) dX5_many_61 (show isO 43 5 from rfl) rfl fg_X5_119 rfl ?_
    exact v_iret dX5_many_64 rfl rfl
  refine v_swif ?_ (fun hs5 => ?_)
  · refine v_tblI (tgt := 65) dX5_many_1 (by decide) (by decide) rfl (by decide) ?_
    refine v_aload_n (n := 66) dX5_many_65 rfl 0 rfl rfl ?_
    refine v_getI (n := 69) (i := 29) dX5_many_66 (show isO 43 5 from rfl) rfl fg_X5_122 rfl ?_
    exact v_iret dX5_many_69 rfl rfl
  refine v_tblO (tgt := 70) dX5_many_1 (by have hs0 := lv_neT hs0 (by decide : (0 : Int32).toInt = 0); have hs1 := lv_neT hs1 (by decide : (1 : Int32).toInt = 1); have hs2 := lv_neT hs2 (by decide : (2 : Int32).toInt = 2); have hs3 := lv_neT hs3 (by decide : (3 : Int32).toInt = 3); have hs4 := lv_neT hs4 (by decide : (4 : Int32).toInt = 4); have hs5 := lv_neT hs5 (by decide : (5 : Int32).toInt = 5); omega) (by decide) ?_
  refine v_bipush (n := 72) (v := -2) dX5_many_70 cb_m2 rfl ?_
  exact v_iret dX5_many_72 rfl rfl
theorem M_X5_many (G : GG) (a1 : Int32) (μ : Mem) (t : Int32 × Mem) (ht : f_X5_many a1 μ = some t) : GM G J_X5_many yX5_many [.ref (G.2.1 43), .int a1] μ (oI t) :=
  gm_of (J := J_X5_many) (k := kI) rfl (by decide) (Nat.le_of_ble_eq_true rfl) (v_X5_many G a1 μ) ht rfl
