set_option maxRecDepth 100000 in
set_option maxHeartbeats 4000000 in
theorem v_X5_goesUp (G : GG) (a1 : Int32) (μ : Mem) : V G J_X5_goesUp 0 [(0, .ref (G.2.1 43)), (1, .int a1)] [] μ (f_X5_goesUp a1 μ) kV := by
  rw [f_X5_goesUp]
  refine v_aload_n (n := 1) dX5_goesUp_0 rfl 0 rfl rfl ?_
  refine v_getR (n := 4) (i := 13) (q2 := 50) dX5_goesUp_1 (show isO 43 5 from rfl) rfl fg_X5_28 rfl ?_
  refine v_iload_n (n := 5) dX5_goesUp_4 rfl 1 rfl rfl ?_
  refine v_iald (n := 6) dX5_goesUp_5 (show isA 50 7 from rfl) rfl ?_
  refine v_lt (fun x1 => ?_)
  refine v_istore_n (n := 7) [(2, .int x1), (0, .ref (G.2.1 43)), (1, .int a1)] dX5_goesUp_6 rfl (by decide) rfl rfl ?_
  refine v_aload_n (n := 8) dX5_goesUp_7 rfl 1 rfl rfl ?_
  refine v_getR (n := 11) (i := 14) (q2 := 51) dX5_goesUp_8 (show isO 43 5 from rfl) rfl fg_X5_31 rfl ?_
  refine v_iload_n (n := 12) dX5_goesUp_11 rfl 2 rfl rfl ?_
  refine v_iald (n := 13) dX5_goesUp_12 (show isA 51 7 from rfl) rfl ?_
  refine v_lt (fun x2 => ?_)
  refine v_istore_n (n := 14) [(3, .int x2), (2, .int x1), (0, .ref (G.2.1 43)), (1, .int a1)] dX5_goesUp_13 rfl (by decide) rfl rfl ?_
  refine v_aload_n (n := 15) dX5_goesUp_14 rfl 2 rfl rfl ?_
  refine v_getR (n := 18) (i := 13) (q2 := 50) dX5_goesUp_15 (show isO 43 5 from rfl) rfl fg_X5_28 rfl ?_
  refine v_iload_n (n := 19) dX5_goesUp_18 rfl 3 rfl rfl ?_
  refine v_aload_n (n := 20) dX5_goesUp_19 rfl 2 rfl rfl ?_
  refine v_getR (n := 23) (i := 13) (q2 := 50) dX5_goesUp_20 (show isO 43 5 from rfl) rfl fg_X5_28 rfl ?_
  refine v_iload_n (n := 24) dX5_goesUp_23 rfl 3 rfl rfl ?_
  refine v_iconst (n := 25) (v := 1) dX5_goesUp_24 ci_1 rfl ?_
  refine v_isub (n := 26) dX5_goesUp_25 rfl ?_
  refine v_iald (n := 27) dX5_goesUp_26 (show isA 50 7 from rfl) rfl ?_
  refine v_iast (n := 28) dX5_goesUp_27 (show isA 50 7 from rfl) rfl ?_
  refine v_lm (fun μ3 => ?_)
  refine v_aload_n (n := 29) dX5_goesUp_28 rfl 2 rfl rfl ?_
  refine v_getR (n := 32) (i := 14) (q2 := 51) dX5_goesUp_29 (show isO 43 5 from rfl) rfl fg_X5_31 rfl ?_
  refine v_iload_n (n := 33) dX5_goesUp_32 rfl 3 rfl rfl ?_
  refine v_aload_n (n := 34) dX5_goesUp_33 rfl 2 rfl rfl ?_
  refine v_getR (n := 37) (i := 14) (q2 := 51) dX5_goesUp_34 (show isO 43 5 from rfl) rfl fg_X5_31 rfl ?_
  refine v_iload_n (n := 38) dX5_goesUp_37 rfl 3 rfl rfl ?_
  refine v_iconst (n := 39) (v := 1) dX5_goesUp_38 ci_1 rfl ?_
  refine v_isub (n := 40) dX5_goesUp_39 rfl ?_
  refine v_iald (n := 41) dX5_goesUp_40 (show isA 51 7 from rfl) rfl ?_
  refine v_iast (n := 42) dX5_goesUp_41 (show isA 51 7 from rfl) rfl ?_
  refine v_lm (fun μ4 => ?_)
  refine v_aload_n (n := 43) dX5_goesUp_42 rfl 2 rfl rfl ?_
  refine v_getR (n := 46) (i := 13) (q2 := 50) dX5_goesUp_43 (show isO 43 5 from rfl) rfl fg_X5_28 rfl ?_
  refine v_iload_n (n := 47) dX5_goesUp_46 rfl 3 rfl rfl ?_
  refine v_iconst (n := 48) (v := 1) dX5_goesUp_47 ci_1 rfl ?_
  refine v_isub (n := 49) dX5_goesUp_48 rfl ?_
  refine v_iload_n (n := 50) dX5_goesUp_49 rfl 1 rfl rfl ?_
  refine v_iast (n := 51) dX5_goesUp_50 (show isA 50 7 from rfl) rfl ?_
  refine v_lm (fun μ5 => ?_)
  refine v_aload_n (n := 52) dX5_goesUp_51 rfl 2 rfl rfl ?_
  refine v_getR (n := 55) (i := 14) (q2 := 51) dX5_goesUp_52 (show isO 43 5 from rfl) rfl fg_X5_31 rfl ?_
  refine v_iload_n (n := 56) dX5_goesUp_55 rfl 3 rfl rfl ?_
  refine v_iconst (n := 57) (v := 1) dX5_goesUp_56 ci_1 rfl ?_
  refine v_isub (n := 58) dX5_goesUp_57 rfl ?_
  refine v_iload_n (n := 59) dX5_goesUp_58 rfl 0 rfl rfl ?_
  refine v_iast (n := 60) dX5_goesUp_59 (show isA 51 7 from rfl) rfl ?_
  refine v_lm (fun μ6 => ?_)
  exact v_vret dX5_goesUp_60 rfl rfl
theorem M_X5_goesUp (G : GG) (a1 : Int32) (μ : Mem) (t : Mem) (ht : f_X5_goesUp a1 μ = some t) : GM G J_X5_goesUp yX5_goesUp [.ref (G.2.1 43), .int a1] μ (oV t) :=
  gm_of (J := J_X5_goesUp) (k := kV) rfl (by decide) (Nat.le_of_ble_eq_true rfl) (v_X5_goesUp G a1 μ) ht rfl
set_option maxRecDepth 100000 in
set_option maxHeartbeats 4000000 in
theorem vlp_X5_move_61 (G : GG) (x1v : Int32) (x2v : Int32) (x3v : Int32) (x4v : Int32) (kk : (Mem) → Option Oc) (hx : ∀ (μ : Mem), V G J_X5_move 82 [(0, .ref (G.2.1 43)), (1, .int x1v), (2, .int x2v), (3, .int x3v), (4, .int x4v)] [] μ (kk μ) some) : ∀ (n : Nat) (x5v : Int32) (μ : Mem), V G J_X5_move 61 [(0, .ref (G.2.1 43)), (1, .int x1v), (2, .int x2v), (3, .int x3v), (4, .int x4v), (5, .int x5v)] [] μ (lp_X5_move_61 x1v x2v x3v x4v n x5v μ) kk := by
  intro n
  induction n with
  | zero => intro _ _; exact v_none
  | succ n ih =>
    intro x5v μ
    rw [lp_X5_move_61]
    refine v_iload (n := 63) dX5_move_61 5 rfl rfl ?_
    refine v_iload_n (n := 64) dX5_move_63 rfl 2 rfl rfl ?_
    refine v_icmp_ge (tgt := 82) (n := 67) dX5_move_64 (by decide) rfl ?_ ?_
    · exact v_leaf (v_sub [0, 1, 2, 3, 4] rfl (hx  μ))
    · refine v_aload_n (n := 68) dX5_move_67 rfl 0 rfl rfl ?_
      refine v_iload (n := 70) dX5_move_68 4 rfl rfl ?_
      refine v_iload (n := 72) dX5_move_70 5 rfl rfl ?_
      refine v_iadd (n := 73) dX5_move_72 rfl ?_
      refine v_cVv (n := 76) (st := []) [.int (x4v + x5v)] dX5_move_73 (fun t ht => M_X5_goesUp G (x4v + x5v) μ t ht) cal_X5_goesUp mw202 (show isO 43 5 from rfl) rfl rfl (Nat.le_of_ble_eq_true rfl) ⟨Nat.le_of_ble_eq_true rfl, Nat.le_of_ble_eq_true rfl⟩ rfl (fun μ3 => ?_)
      refine v_iinc (n := 79) (w := 1) (fun x4 => [(5, .int x4), (0, .ref (G.2.1 43)), (1, .int x1v), (2, .int x2v), (3, .int x3v), (4, .int x4v)]) dX5_move_76 5 rfl ci_1 (by decide) (fun _ => rfl) rfl (fun x4 => ?_)
      refine v_goto (tgt := 61) dX5_move_79 (by decide) ?_
      exact v_sub [1, 2, 3, 4, 5, 0] rfl (ih x4 μ3)
set_option maxRecDepth 100000 in
set_option maxHeartbeats 4000000 in
theorem vlp_X5_move_52 (G : GG) (x1v : Int32) (x2v : Int32) (x3v : Int32) (kk : (Mem) → Option Oc) (hx : ∀ (μ : Mem), V G J_X5_move 88 [(0, .ref (G.2.1 43)), (1, .int x1v), (2, .int x2v), (3, .int x3v)] [] μ (kk μ) some) : ∀ (n : Nat) (x4v : Int32) (μ : Mem), V G J_X5_move 52 [(0, .ref (G.2.1 43)), (1, .int x1v), (2, .int x2v), (3, .int x3v), (4, .int x4v)] [] μ (lp_X5_move_52 x1v x2v x3v n x4v μ) kk := by
  intro n
  induction n with
  | zero => intro _ _; exact v_none
  | succ n ih =>
    intro x4v μ
    rw [lp_X5_move_52]
    refine v_iload (n := 54) dX5_move_52 4 rfl rfl ?_
    refine v_iload_n (n := 55) dX5_move_54 rfl 3 rfl rfl ?_
    refine v_icmp_le (tgt := 88) (n := 58) dX5_move_55 (by decide) rfl ?_ ?_
    · exact v_leaf (v_sub [0, 1, 2, 3] rfl (hx  μ))
    · refine v_iconst (n := 59) (v := 0) dX5_move_58 ci_0 rfl ?_
      refine v_istore (n := 61) [(5, .int (0 : Int32)), (0, .ref (G.2.1 43)), (1, .int x1v), (2, .int x2v), (3, .int x3v), (4, .int x4v)] dX5_move_59 (by decide) rfl rfl ?_
      refine v_sub [1, 2, 3, 4, 5, 0] rfl ?_
      refine v_x1 (px := 82) (lx := (fun μ5 => [(0, .ref (G.2.1 43)), (1, .int x1v), (2, .int x2v), (3, .int x3v), (4, .int x4v)])) (mx := (fun μ5 => μ5)) (fun kk hx => vlp_X5_move_61 G x1v x2v x3v x4v kk hx FU (0 : Int32) μ) (fun μ5 => ?_)
      refine v_iinc (n := 85) (w := -1) (fun x6 => [(4, .int x6), (0, .ref (G.2.1 43)), (1, .int x1v), (2, .int x2v), (3, .int x3v)]) dX5_move_82 4 rfl ci_m1 (by decide) (fun _ => rfl) rfl (fun x6 => ?_)
      refine v_goto (tgt := 52) dX5_move_85 (by decide) ?_
      exact v_sub [1, 2, 3, 4, 0] rfl (ih x6 μ5)
set_option maxRecDepth 100000 in
set_option maxHeartbeats 4000000 in
theorem vlp_X5_move_100 (G : GG) (x2v : Int32) (x3v : Int32) (x4v : Int32) (kk : (Mem) → Option Oc) (hx : ∀ (μ : Mem), V G J_X5_move 120 [(0, .ref (G.2.1 43)), (2, .int x2v), (3, .int x3v), (4, .int x4v)] [] μ (kk μ) some) : ∀ (n : Nat) (x5v : Int32) (μ : Mem), V G J_X5_move 100 [(0, .ref (G.2.1 43)), (2, .int x2v), (3, .int x3v), (4, .int x4v), (5, .int x5v)] [] μ (lp_X5_move_100 x2v x3v x4v n x5v μ) kk := by
  intro n
  induction n with
  | zero => intro _ _; exact v_none
  | succ n ih =>
    intro x5v μ
    rw [lp_X5_move_100]
    refine v_iload (n := 102) dX5_move_100 4 rfl rfl ?_
    refine v_if_le (tgt := 120) (n := 105) dX5_move_102 (by decide) rfl ?_ ?_
    · exact v_leaf (v_sub [0, 1, 2, 3] rfl (hx  μ))
    · refine v_aload_n (n := 106) dX5_move_105 rfl 0 rfl rfl ?_
      refine v_iload (n := 108) dX5_move_106 3 rfl rfl ?_
      refine v_iload (n := 110) dX5_move_108 4 rfl rfl ?_
      refine v_iadd (n := 111) dX5_move_110 rfl ?_
      refine v_cVv (n := 114) (st := []) [.int (x4v + x5v)] dX5_move_111 (fun t ht => M_X5_goesUp G (x4v + x5v) μ t ht) cal_X5_goesUp mw202 (show isO 43 5 from rfl) rfl rfl (Nat.le_of_ble_eq_true rfl) ⟨Nat.le_of_ble_eq_true rfl, Nat.le_of_ble_eq_true rfl⟩ rfl (fun μ8 => ?_)
      refine v_iinc (n := 117) (w := -1) (fun x9 => [(5, .int x9), (0, .ref (G.2.1 43)), (2, .int x2v), (3, .int x3v), (4, .int x4v)]) dX5_move_114 4 rfl ci_m1 (by decide) (fun _ => rfl) rfl (fun x9 => ?_)
      refine v_goto (tgt := 100) dX5_move_117 (by decide) ?_
      exact v_sub [1, 2, 3, 4, 0] rfl (ih x9 μ8)
set_option maxRecDepth 100000 in
set_option maxHeartbeats 4000000 in
theorem vlp_X5_move_91 (G : GG) (x2v : Int32) (x3v : Int32) (kk : (Mem) → Option Oc) (hx : ∀ (μ : Mem), V G J_X5_move 126 [(2, .int x2v)] [] μ (kk μ) some) : ∀ (n : Nat) (x4v : Int32) (μ : Mem), V G J_X5_move 91 [(0, .ref (G.2.1 43)), (2, .int x2v), (3, .int x3v), (4, .int x4v)] [] μ (lp_X5_move_91 x2v x3v n x4v μ) kk := by
  intro n
  induction n with
  | zero => intro _ _; exact v_none
  | succ n ih =>
    intro x4v μ
    rw [lp_X5_move_91]
    refine v_iload (n := 93) dX5_move_91 3 rfl rfl ?_
    refine v_iload_n (n := 94) dX5_move_93 rfl 2 rfl rfl ?_
    refine v_icmp_ge (tgt := 126) (n := 97) dX5_move_94 (by decide) rfl ?_ ?_
    · exact v_leaf (v_sub [1] rfl (hx  μ))
    · refine v_iload_n (n := 98) dX5_move_97 rfl 1 rfl rfl ?_
      refine v_istore (n := 100) [(5, .int x2v), (0, .ref (G.2.1 43)), (2, .int x2v), (3, .int x3v), (4, .int x4v)] dX5_move_98 (by decide) rfl rfl ?_
      refine v_sub [1, 2, 3, 4, 0] rfl ?_
      refine v_x1 (px := 120) (lx := (fun μ10 => [(0, .ref (G.2.1 43)), (2, .int x2v), (3, .int x3v), (4, .int x4v)])) (mx := (fun μ10 => μ10)) (fun kk hx => vlp_X5_move_100 G x2v x3v x4v kk hx FU x2v μ) (fun μ10 => ?_)
      refine v_iinc (n := 123) (w := 1) (fun x11 => [(4, .int x11), (0, .ref (G.2.1 43)), (2, .int x2v), (3, .int x3v)]) dX5_move_120 3 rfl ci_1 (by decide) (fun _ => rfl) rfl (fun x11 => ?_)
      refine v_goto (tgt := 91) dX5_move_123 (by decide) ?_
      exact v_sub [1, 2, 3, 0] rfl (ih x11 μ10)
set_option maxRecDepth 100000 in
set_option maxHeartbeats 4000000 in
theorem v_X5_move (G : GG) (a1 : Int32) (a2 : Int32) (a3 : Int32) (μ : Mem) : V G J_X5_move 0 [(0, .ref (G.2.1 43)), (1, .int a1), (2, .int a2), (3, .int a3)] [] μ (f_X5_move a1 a2 a3 μ) kI := by
  rw [f_X5_move]
  refine v_iload_n (n := 1) dX5_move_0 rfl 2 rfl rfl ?_
  refine v_iconst (n := 2) (v := 1) dX5_move_1 ci_1 rfl ?_
  refine v_icmp_ge (tgt := 8) (n := 5) dX5_move_2 (by decide) rfl ?_ ?_
  · refine v_iload_n (n := 9) dX5_move_8 rfl 1 rfl rfl ?_
    refine v_if_lt (tgt := 30) (n := 12) dX5_move_9 (by decide) rfl ?_ ?_
    · refine v_iconst (n := 31) (v := -1) dX5_move_30 ci_m1 rfl ?_
      exact v_iret dX5_move_31 rfl rfl
    · refine v_iload_n (n := 13) dX5_move_12 rfl 1 rfl rfl ?_
      refine v_aload_n (n := 14) dX5_move_13 rfl 0 rfl rfl ?_
      refine v_getI (n := 17) (i := 6) dX5_move_14 (show isO 43 5 from rfl) rfl fg_X5_83 rfl ?_
      refine v_icmp_ge (tgt := 30) (n := 20) dX5_move_17 (by decide) rfl ?_ ?_
      · refine v_iconst (n := 31) (v := -1) dX5_move_30 ci_m1 rfl ?_
        exact v_iret dX5_move_31 rfl rfl
      · refine v_iload_n (n := 21) dX5_move_20 rfl 2 rfl rfl ?_
        refine v_aload_n (n := 22) dX5_move_21 rfl 0 rfl rfl ?_
        refine v_getI (n := 25) (i := 6) dX5_move_22 (show isO 43 5 from rfl) rfl fg_X5_83 rfl ?_
        refine v_iload_n (n := 26) dX5_move_25 rfl 1 rfl rfl ?_
        refine v_isub (n := 27) dX5_move_26 rfl ?_
        refine v_icmp_le (tgt := 32) (n := 30) dX5_move_27 (by decide) rfl ?_ ?_
        · refine v_iload_n (n := 33) dX5_move_32 rfl 3 rfl rfl ?_
          refine v_iconst (n := 34) (v := 0) dX5_move_33 ci_0 rfl ?_
          refine v_aload_n (n := 35) dX5_move_34 rfl 0 rfl rfl ?_
          refine v_getI (n := 38) (i := 6) dX5_move_35 (show isO 43 5 from rfl) rfl fg_X5_83 rfl ?_
          refine v_iload_n (n := 39) dX5_move_38 rfl 2 rfl rfl ?_
          refine v_isub (n := 40) dX5_move_39 rfl ?_
          refine v_cSi (n := 43) (st := []) [.int a3, .int (0 : Int32), .int (μ 43 6 - a2)] dX5_move_40 (fun t ht => M_X5_within G a3 (0 : Int32) (μ 43 6 - a2) μ t ht) cal_X5_within mw151 rfl rfl (Nat.le_of_ble_eq_true rfl) ⟨Nat.le_of_ble_eq_true rfl, Nat.le_of_ble_eq_true rfl⟩ rfl (fun x2 μ1 => ?_)
          refine v_if_ne (tgt := 49) (n := 46) dX5_move_43 (by decide) rfl ?_ ?_
          · refine v_bipush (n := 48) (v := -2) dX5_move_46 cb_m2 rfl ?_
            exact v_iret dX5_move_48 rfl rfl
          · refine v_iload_n (n := 50) dX5_move_49 rfl 1 rfl rfl ?_
            refine v_istore (n := 52) [(4, .int a1), (0, .ref (G.2.1 43)), (1, .int a1), (2, .int a2), (3, .int a3)] dX5_move_50 (by decide) rfl rfl ?_
            refine v_sub [1, 2, 3, 4, 0] rfl ?_
            refine v_x1 (px := 88) (lx := (fun μ7 => [(0, .ref (G.2.1 43)), (1, .int a1), (2, .int a2), (3, .int a3)])) (mx := (fun μ7 => μ7)) (fun kk hx => vlp_X5_move_52 G a1 a2 a3 kk hx FU a1 μ1) (fun μ7 => ?_)
            refine v_iload_n (n := 89) dX5_move_88 rfl 1 rfl rfl ?_
            refine v_istore (n := 91) [(4, .int a1), (0, .ref (G.2.1 43)), (1, .int a1), (2, .int a2), (3, .int a3)] dX5_move_89 (by decide) rfl rfl ?_
            refine v_sub [1, 3, 4, 0] rfl ?_
            refine v_x1 (px := 126) (lx := (fun μ12 => [(2, .int a2)])) (mx := (fun μ12 => μ12)) (fun kk hx => vlp_X5_move_91 G a2 a3 kk hx FU a1 μ7) (fun μ12 => ?_)
            refine v_iload_n (n := 127) dX5_move_126 rfl 0 rfl rfl ?_
            exact v_iret dX5_move_127 rfl rfl
        · refine v_iconst (n := 31) (v := -1) dX5_move_30 ci_m1 rfl ?_
          exact v_iret dX5_move_31 rfl rfl
  · refine v_bipush (n := 7) (v := -2) dX5_move_5 cb_m2 rfl ?_
    exact v_iret dX5_move_7 rfl rfl
theorem M_X5_move (G : GG) (a1 : Int32) (a2 : Int32) (a3 : Int32) (μ : Mem) (t : Int32 × Mem) (ht : f_X5_move a1 a2 a3 μ = some t) : GM G J_X5_move yX5_move [.ref (G.2.1 43), .int a1, .int a2, .int a3] μ (oI t) :=
  gm_of (J := J_X5_move) (k := kI) rfl (by decide) (Nat.le_of_ble_eq_true rfl) (v_X5_move G a1 a2 a3 μ) ht rfl
set_option maxRecDepth 100000 in
set_option maxHeartbeats 4000000 in
theorem vjn_X5_tellBest_52 (G : GG) (x1v : Int32) (x2v : Int32) (μ : Mem) : V G J_X5_tellBest 52 [(0, .ref (G.2.1 43)), (1, .int x1v), (2, .int x2v)] [] μ (jn_X5_tellBest_52 x1v x2v μ) kI := by
  rw [jn_X5_tellBest_52]
  refine v_iload_n (n := 53) dX5_tellBest_52 rfl 1 rfl rfl ?_
  refine v_if_ne (tgt := 60) (n := 56) dX5_tellBest_53 (by decide) rfl ?_ ?_
  · refine v_iload_n (n := 57) dX5_tellBest_56 rfl 2 rfl rfl ?_
    refine v_goto (tgt := 78) dX5_tellBest_57 (by decide) ?_
    exact v_iret dX5_tellBest_78 rfl rfl
  · refine v_iload_n (n := 61) dX5_tellBest_60 rfl 1 rfl rfl ?_
    refine v_iconst (n := 62) (v := 2) dX5_tellBest_61 ci_2 rfl ?_
    refine v_icmp_ne (tgt := 72) (n := 65) dX5_tellBest_62 (by decide) rfl ?_ ?_
    · refine v_aload_n (n := 66) dX5_tellBest_65 rfl 0 rfl rfl ?_
      refine v_getI (n := 69) (i := 24) dX5_tellBest_66 (show isO 43 5 from rfl) rfl fg_X5_165 rfl ?_
      refine v_goto (tgt := 78) dX5_tellBest_69 (by decide) ?_
      exact v_iret dX5_tellBest_78 rfl rfl
    · refine v_aload_n (n := 73) dX5_tellBest_72 rfl 0 rfl rfl ?_
      refine v_getR (n := 76) (i := 22) (q2 := 56) dX5_tellBest_73 (show isO 43 5 from rfl) rfl fg_X5_46 rfl ?_
      refine v_iconst (n := 77) (v := 0) dX5_tellBest_76 ci_0 rfl ?_
      refine v_iald (n := 78) dX5_tellBest_77 (show isA 56 64 from rfl) rfl ?_
      exact v_iret dX5_tellBest_78 rfl rfl
set_option maxRecDepth 100000 in
set_option maxHeartbeats 4000000 in
theorem v_X5_tellBest (G : GG) (a1 : Int32) (μ : Mem) : V G J_X5_tellBest 0 [(0, .ref (G.2.1 43)), (1, .int a1)] [] μ (f_X5_tellBest a1 μ) kI := by
  rw [f_X5_tellBest]
  refine v_aload_n (n := 1) dX5_tellBest_0 rfl 0 rfl rfl ?_
  refine v_cVi (n := 4) (st := []) [] dX5_tellBest_1 (fun t ht => M_X5_findBest G μ t ht) cal_X5_findBest mw199 (show isO 43 5 from rfl) rfl rfl (Nat.le_of_ble_eq_true rfl) ⟨Nat.le_of_ble_eq_true rfl, Nat.le_of_ble_eq_true rfl⟩ rfl (fun x2 μ1 => ?_)
  refine v_istore_n (n := 5) [(2, .int x2), (0, .ref (G.2.1 43)), (1, .int a1)] dX5_tellBest_4 rfl (by decide) rfl rfl ?_
  refine v_iload_n (n := 6) dX5_tellBest_5 rfl 2 rfl rfl ?_
  refine v_iconst (n := 7) (v := 4) dX5_tellBest_6 ci_4 rfl ?_
  refine v_icmp_ne (tgt := 27) (n := 10) dX5_tellBest_7 (by decide) rfl ?_ ?_
  · refine v_iload_n (n := 11) dX5_tellBest_10 rfl 0 rfl rfl ?_
    refine v_bipush (n := 13) (v := -9) dX5_tellBest_11 cb_m9 rfl ?_
    refine v_icmp_ne (tgt := 20) (n := 16) dX5_tellBest_13 (by decide) rfl ?_ ?_
    · refine v_iconst (n := 17) (v := 0) dX5_tellBest_16 ci_0 rfl ?_
      refine v_goto (tgt := 26) dX5_tellBest_17 (by decide) ?_
      exact v_iret dX5_tellBest_26 rfl rfl
    · refine v_aload_n (n := 21) dX5_tellBest_20 rfl 1 rfl rfl ?_
      refine v_getR (n := 24) (i := 23) (q2 := 57) dX5_tellBest_21 (show isO 43 5 from rfl) rfl fg_X5_49 rfl ?_
      refine v_iconst (n := 25) (v := 0) dX5_tellBest_24 ci_0 rfl ?_
      refine v_iald (n := 26) dX5_tellBest_25 (show isA 57 64 from rfl) rfl ?_
      exact v_iret dX5_tellBest_26 rfl rfl
  · refine v_iload_n (n := 28) dX5_tellBest_27 rfl 0 rfl rfl ?_
    refine v_bipush (n := 30) (v := -9) dX5_tellBest_28 cb_m9 rfl ?_
    refine v_icmp_eq (tgt := 49) (n := 33) dX5_tellBest_30 (by decide) rfl ?_ ?_
    · refine v_bipush (n := 51) (v := -9) dX5_tellBest_49 cb_m9 rfl ?_
      exact v_iret dX5_tellBest_51 rfl rfl
    · refine v_iload_n (n := 34) dX5_tellBest_33 rfl 2 rfl rfl ?_
      refine v_iconst (n := 35) (v := 3) dX5_tellBest_34 ci_3 rfl ?_
      refine v_icmp_ne (tgt := 52) (n := 38) dX5_tellBest_35 (by decide) rfl ?_ ?_
      · refine v_aload_n (n := 39) dX5_tellBest_38 rfl 1 rfl rfl ?_
        refine v_getR (n := 42) (i := 22) (q2 := 56) dX5_tellBest_39 (show isO 43 5 from rfl) rfl fg_X5_46 rfl ?_
        refine v_iconst (n := 43) (v := 0) dX5_tellBest_42 ci_0 rfl ?_
        refine v_iald (n := 44) dX5_tellBest_43 (show isA 56 64 from rfl) rfl ?_
        refine v_ldc (n := 46) (v := 99999) dX5_tellBest_44 mw184 rfl ?_
        refine v_icmp_lt (tgt := 52) (n := 49) dX5_tellBest_46 (by decide) rfl ?_ ?_
        · exact v_sub [1, 2, 0] rfl (vjn_X5_tellBest_52 G a1 x2 μ1)
        · refine v_bipush (n := 51) (v := -9) dX5_tellBest_49 cb_m9 rfl ?_
          exact v_iret dX5_tellBest_51 rfl rfl
      · exact v_sub [1, 2, 0] rfl (vjn_X5_tellBest_52 G a1 x2 μ1)
theorem M_X5_tellBest (G : GG) (a1 : Int32) (μ : Mem) (t : Int32 × Mem) (ht : f_X5_tellBest a1 μ = some t) : GM G J_X5_tellBest yX5_tellBest [.ref (G.2.1 43), .int a1] μ (oI t) :=
  gm_of (J := J_X5_tellBest) (k := kI) rfl (by decide) (Nat.le_of_ble_eq_true rfl) (v_X5_tellBest G a1 μ) ht rfl
set_option maxRecDepth 100000 in
set_option maxHeartbeats 4000000 in
theorem v_X5_best (G : GG) (a1 : Int32) (μ : Mem) : V G J_X5_best 0 [(0, .ref (G.2.1 43)), (1, .int a1)] [] μ (f_X5_best a1 μ) kI := by
  rw [f_X5_best]
  refine v_iload_n (n := 1) dX5_best_0 rfl 1 rfl rfl ?_
  refine v_iconst (n := 2) (v := 0) dX5_best_1 ci_0 rfl ?_
  refine v_iconst (n := 3) (v := 3) dX5_best_2 ci_3 rfl ?_
  refine v_cSi (n := 6) (st := []) [.int a1, .int (0 : Int32), .int (3 : Int32)] dX5_best_3 (fun t ht => M_X5_within G a1 (0 : Int32) (3 : Int32) μ t ht) cal_X5_within mw151 rfl rfl (Nat.le_of_ble_eq_true rfl) ⟨Nat.le_of_ble_eq_true rfl, Nat.le_of_ble_eq_true rfl⟩ rfl (fun x2 μ1 => ?_)
  refine v_if_ne (tgt := 12) (n := 9) dX5_best_6 (by decide) rfl ?_ ?_
  · refine v_bipush (n := 11) (v := -2) dX5_best_9 cb_m2 rfl ?_
    exact v_iret dX5_best_11 rfl rfl
  · refine v_aload_n (n := 13) dX5_best_12 rfl 0 rfl rfl ?_
    refine v_getI (n := 16) (i := 5) dX5_best_13 (show isO 43 5 from rfl) rfl fg_X5_80 rfl ?_
    refine v_if_ne (tgt := 22) (n := 19) dX5_best_16 (by decide) rfl ?_ ?_
    · refine v_bipush (n := 21) (v := -3) dX5_best_19 cb_m3 rfl ?_
      exact v_iret dX5_best_21 rfl rfl
    · refine v_aload_n (n := 23) dX5_best_22 rfl 0 rfl rfl ?_
      refine v_iload_n (n := 24) dX5_best_23 rfl 1 rfl rfl ?_
      refine v_iconst (n := 25) (v := 1) dX5_best_24 ci_1 rfl ?_
      refine v_icmp_ne (tgt := 32) (n := 28) dX5_best_25 (by decide) rfl ?_ ?_
      · refine v_iconst (n := 29) (v := 2) dX5_best_28 ci_2 rfl ?_
        refine v_goto (tgt := 51) dX5_best_29 (by decide) ?_
        refine v_cVi (n := 54) (st := []) [.int (2 : Int32)] dX5_best_51 (fun t ht => M_X5_tellBest G (2 : Int32) μ1 t ht) cal_X5_tellBest mw203 (show isO 43 5 from rfl) rfl rfl (Nat.le_of_ble_eq_true rfl) ⟨Nat.le_of_ble_eq_true rfl, Nat.le_of_ble_eq_true rfl⟩ rfl (fun x10 μ9 => ?_)
        exact v_iret dX5_best_54 rfl rfl
      · refine v_iload_n (n := 33) dX5_best_32 rfl 1 rfl rfl ?_
        refine v_iconst (n := 34) (v := 2) dX5_best_33 ci_2 rfl ?_
        refine v_icmp_ne (tgt := 41) (n := 37) dX5_best_34 (by decide) rfl ?_ ?_
        · refine v_iconst (n := 38) (v := 3) dX5_best_37 ci_3 rfl ?_
          refine v_goto (tgt := 51) dX5_best_38 (by decide) ?_
          refine v_cVi (n := 54) (st := []) [.int (3 : Int32)] dX5_best_51 (fun t ht => M_X5_tellBest G (3 : Int32) μ1 t ht) cal_X5_tellBest mw203 (show isO 43 5 from rfl) rfl rfl (Nat.le_of_ble_eq_true rfl) ⟨Nat.le_of_ble_eq_true rfl, Nat.le_of_ble_eq_true rfl⟩ rfl (fun x8 μ7 => ?_)
          exact v_iret dX5_best_54 rfl rfl
        · refine v_iload_n (n := 42) dX5_best_41 rfl 1 rfl rfl ?_
          refine v_iconst (n := 43) (v := 3) dX5_best_42 ci_3 rfl ?_
          refine v_icmp_ne (tgt := 50) (n := 46) dX5_best_43 (by decide) rfl ?_ ?_
          · refine v_iconst (n := 47) (v := 4) dX5_best_46 ci_4 rfl ?_
            refine v_goto (tgt := 51) dX5_best_47 (by decide) ?_
            refine v_cVi (n := 54) (st := []) [.int (4 : Int32)] dX5_best_51 (fun t ht => M_X5_tellBest G (4 : Int32) μ1 t ht) cal_X5_tellBest mw203 (show isO 43 5 from rfl) rfl rfl (Nat.le_of_ble_eq_true rfl) ⟨Nat.le_of_ble_eq_true rfl, Nat.le_of_ble_eq_true rfl⟩ rfl (fun x6 μ5 => ?_)
            exact v_iret dX5_best_54 rfl rfl
          · refine v_iconst (n := 51) (v := 0) dX5_best_50 ci_0 rfl ?_
            refine v_cVi (n := 54) (st := []) [.int (0 : Int32)] dX5_best_51 (fun t ht => M_X5_tellBest G (0 : Int32) μ1 t ht) cal_X5_tellBest mw203 (show isO 43 5 from rfl) rfl rfl (Nat.le_of_ble_eq_true rfl) ⟨Nat.le_of_ble_eq_true rfl, Nat.le_of_ble_eq_true rfl⟩ rfl (fun x4 μ3 => ?_)
            exact v_iret dX5_best_54 rfl rfl
theorem M_X5_best (G : GG) (a1 : Int32) (μ : Mem) (t : Int32 × Mem) (ht : f_X5_best a1 μ = some t) : GM G J_X5_best yX5_best [.ref (G.2.1 43), .int a1] μ (oI t) :=
  gm_of (J := J_X5_best) (k := kI) rfl (by decide) (Nat.le_of_ble_eq_true rfl) (v_X5_best G a1 μ) ht rfl
set_option maxRecDepth 100000 in
set_option maxHeartbeats 4000000 in
theorem v_X5_ofPair (G : GG) (a1 : Int32) (a2 : Int32) (μ : Mem) : V G J_X5_ofPair 0 [(0, .ref (G.2.1 43)), (1, .int a1), (2, .int a2)] [] μ (f_X5_ofPair a1 a2 μ) kI := by
  rw [f_X5_ofPair]
  refine v_aload_n (n := 1) dX5_ofPair_0 rfl 0 rfl rfl ?_
  refine v_cVi (n := 4) (st := []) [] dX5_ofPair_1 (fun t ht => M_X5_findBest G μ t ht) cal_X5_findBest mw199 (show isO 43 5 from rfl) rfl rfl (Nat.le_of_ble_eq_true rfl) ⟨Nat.le_of_ble_eq_true rfl, Nat.le_of_ble_eq_true rfl⟩ rfl (fun x2 μ1 => ?_)
  refine v_pop (n := 5) dX5_ofPair_4 rfl rfl ?_
  refine v_iload_n (n := 6) dX5_ofPair_5 rfl 1 rfl rfl ?_
  refine v_if_lt (tgt := 17) (n := 9) dX5_ofPair_6 (by decide) rfl ?_ ?_
  · refine v_iconst (n := 18) (v := -1) dX5_ofPair_17 ci_m1 rfl ?_
    exact v_iret dX5_ofPair_18 rfl rfl
  · refine v_iload_n (n := 10) dX5_ofPair_9 rfl 1 rfl rfl ?_
    refine v_aload_n (n := 11) dX5_ofPair_10 rfl 0 rfl rfl ?_
    refine v_getI (n := 14) (i := 24) dX5_ofPair_11 (show isO 43 5 from rfl) rfl fg_X5_165 rfl ?_
    refine v_icmp_lt (tgt := 19) (n := 17) dX5_ofPair_14 (by decide) rfl ?_ ?_
    · refine v_iload_n (n := 20) dX5_ofPair_19 rfl 2 rfl rfl ?_
      refine v_swif ?_ (fun hs0 => ?_)
      · refine v_tblI (tgt := 52) dX5_ofPair_20 (by decide) (by decide) rfl (by decide) ?_
        refine v_aload_n (n := 53) dX5_ofPair_52 rfl 0 rfl rfl ?_
        refine v_getR (n := 56) (i := 25) (q2 := 58) dX5_ofPair_53 (show isO 43 5 from rfl) rfl fg_X5_52 rfl ?_
        refine v_iload_n (n := 57) dX5_ofPair_56 rfl 1 rfl rfl ?_
        refine v_iald (n := 58) dX5_ofPair_57 (show isA 58 14 from rfl) rfl ?_
        exact v_iret dX5_ofPair_58 rfl rfl
      refine v_swif ?_ (fun hs1 => ?_)
      · refine v_tblI (tgt := 59) dX5_ofPair_20 (by decide) (by decide) rfl (by decide) ?_
        refine v_aload_n (n := 60) dX5_ofPair_59 rfl 0 rfl rfl ?_
        refine v_getR (n := 63) (i := 26) (q2 := 59) dX5_ofPair_60 (show isO 43 5 from rfl) rfl fg_X5_55 rfl ?_
        refine v_iload_n (n := 64) dX5_ofPair_63 rfl 1 rfl rfl ?_
        refine v_iald (n := 65) dX5_ofPair_64 (show isA 59 14 from rfl) rfl ?_
        exact v_iret dX5_ofPair_65 rfl rfl
      refine v_swif ?_ (fun hs2 => ?_)
      · refine v_tblI (tgt := 66) dX5_ofPair_20 (by decide) (by decide) rfl (by decide) ?_
        refine v_aload_n (n := 67) dX5_ofPair_66 rfl 0 rfl rfl ?_
        refine v_getR (n := 70) (i := 27) (q2 := 60) dX5_ofPair_67 (show isO 43 5 from rfl) rfl fg_X5_58 rfl ?_
        refine v_iload_n (n := 71) dX5_ofPair_70 rfl 1 rfl rfl ?_
        refine v_iald (n := 72) dX5_ofPair_71 (show isA 60 14 from rfl) rfl ?_
        exact v_iret dX5_ofPair_72 rfl rfl
      refine v_swif ?_ (fun hs3 => ?_)
      · refine v_tblI (tgt := 73) dX5_ofPair_20 (by decide) (by decide) rfl (by decide) ?_
        refine v_aload_n (n := 74) dX5_ofPair_73 rfl 0 rfl rfl ?_
        refine v_aload_n (n := 75) dX5_ofPair_74 rfl 0 rfl rfl ?_
        refine v_getR (n := 78) (i := 25) (q2 := 58) dX5_ofPair_75 (show isO 43 5 from rfl) rfl fg_X5_52 rfl ?_
        refine v_iload_n (n := 79) dX5_ofPair_78 rfl 1 rfl rfl ?_
        refine v_iald (n := 80) dX5_ofPair_79 (show isA 58 14 from rfl) rfl ?_
        refine v_aload_n (n := 81) dX5_ofPair_80 rfl 0 rfl rfl ?_
        refine v_getR (n := 84) (i := 26) (q2 := 59) dX5_ofPair_81 (show isO 43 5 from rfl) rfl fg_X5_55 rfl ?_
        refine v_iload_n (n := 85) dX5_ofPair_84 rfl 1 rfl rfl ?_
        refine v_iald (n := 86) dX5_ofPair_85 (show isA 59 14 from rfl) rfl ?_
        refine v_aload_n (n := 87) dX5_ofPair_86 rfl 0 rfl rfl ?_
        refine v_getR (n := 90) (i := 27) (q2 := 60) dX5_ofPair_87 (show isO 43 5 from rfl) rfl fg_X5_58 rfl ?_
        refine v_iload_n (n := 91) dX5_ofPair_90 rfl 1 rfl rfl ?_
        refine v_iald (n := 92) dX5_ofPair_91 (show isA 60 14 from rfl) rfl ?_
        refine v_cVi (n := 95) (st := []) [.int (μ1 58 a1.toNatClampNeg), .int (μ1 59 a1.toNatClampNeg), .int (μ1 60 a1.toNatClampNeg)] dX5_ofPair_92 (fun t ht => M_X5_costOf G (μ1 58 a1.toNatClampNeg) (μ1 59 a1.toNatClampNeg) (μ1 60 a1.toNatClampNeg) μ1 t ht) cal_X5_costOf mw189 (show isO 43 5 from rfl) rfl rfl (Nat.le_of_ble_eq_true rfl) ⟨Nat.le_of_ble_eq_true rfl, Nat.le_of_ble_eq_true rfl⟩ rfl (fun x4 μ3 => ?_)
        exact v_iret dX5_ofPair_95 rfl rfl
      refine v_tblO (tgt := 96) dX5_ofPair_20 (by have hs0 := lv_neT hs0 (by decide : (0 : Int32).toInt = 0); have hs1 := lv_neT hs1 (by decide : (1 : Int32).toInt = 1); have hs2 := lv_neT hs2 (by decide : (2 : Int32).toInt = 2); have hs3 := lv_neT hs3 (by decide : (3 : Int32).toInt = 3); omega) (by decide) ?_
      refine v_bipush (n := 98) (v := -2) dX5_ofPair_96 cb_m2 rfl ?_
      exact v_iret dX5_ofPair_98 rfl rfl
    · refine v_iconst (n := 18) (v := -1) dX5_ofPair_17 ci_m1 rfl ?_
      exact v_iret dX5_ofPair_18 rfl rfl
theorem M_X5_ofPair (G : GG) (a1 : Int32) (a2 : Int32) (μ : Mem) (t : Int32 × Mem) (ht : f_X5_ofPair a1 a2 μ = some t) : GM G J_X5_ofPair yX5_ofPair [.ref (G.2.1 43), .int a1, .int a2] μ (oI t) :=
  gm_of (J := J_X5_ofPair) (k := kI) rfl (by decide) (Nat.le_of_ble_eq_true rfl) (v_X5_ofPair G a1 a2 μ) ht rfl
set_option maxRecDepth 100000 in
set_option maxHeartbeats 4000000 in
theorem vjn_X5_cost_81 (G : GG) (x1v : Int32) (x2v : Int32) (x3v : Int32) (s0v : Int32) (μ : Mem) : V G J_X5_cost 81 [(0, .ref (G.2.1 43)), (1, .int x1v), (2, .int x2v), (3, .int x3v)] [.int s0v] μ (jn_X5_cost_81 x1v x2v x3v s0v μ) kI := by
  rw [jn_X5_cost_81]
  refine v_istore (n := 83) [(4, .int s0v), (0, .ref (G.2.1 43)), (1, .int x1v), (2, .int x2v), (3, .int x3v)] dX5_cost_81 (by decide) rfl rfl ?_
  refine v_iload (n := 85) dX5_cost_83 0 rfl rfl ?_
  refine v_if_eq (tgt := 98) (n := 88) dX5_cost_85 (by decide) rfl ?_ ?_
  · refine v_iconst (n := 99) (v := -1) dX5_cost_98 ci_m1 rfl ?_
    exact v_iret dX5_cost_99 rfl rfl
  · refine v_aload_n (n := 89) dX5_cost_88 rfl 1 rfl rfl ?_
    refine v_iload_n (n := 90) dX5_cost_89 rfl 2 rfl rfl ?_
    refine v_iload_n (n := 91) dX5_cost_90 rfl 3 rfl rfl ?_
    refine v_iload_n (n := 92) dX5_cost_91 rfl 4 rfl rfl ?_
    refine v_cVi (n := 95) (st := []) [.int x1v, .int x2v, .int x3v] dX5_cost_92 (fun t ht => M_X5_costOf G x1v x2v x3v μ t ht) cal_X5_costOf mw189 (show isO 43 5 from rfl) rfl rfl (Nat.le_of_ble_eq_true rfl) ⟨Nat.le_of_ble_eq_true rfl, Nat.le_of_ble_eq_true rfl⟩ rfl (fun x4 μ3 => ?_)
    refine v_goto (tgt := 99) dX5_cost_95 (by decide) ?_
    exact v_iret dX5_cost_99 rfl rfl
set_option maxRecDepth 100000 in
set_option maxHeartbeats 4000000 in
theorem vjn_X5_cost_80 (G : GG) (x1v : Int32) (x2v : Int32) (x3v : Int32) (μ : Mem) : V G J_X5_cost 80 [(0, .ref (G.2.1 43)), (1, .int x1v), (2, .int x2v), (3, .int x3v)] [] μ (jn_X5_cost_80 x1v x2v x3v μ) kI := by
  rw [jn_X5_cost_80]
  refine v_iconst (n := 81) (v := 0) dX5_cost_80 ci_0 rfl ?_
  exact vjn_X5_cost_81 G x1v x2v x3v (0 : Int32) μ
set_option maxRecDepth 100000 in
set_option maxHeartbeats 4000000 in
theorem vjn_X5_cost_76 (G : GG) (x1v : Int32) (x2v : Int32) (x3v : Int32) (μ : Mem) : V G J_X5_cost 76 [(0, .ref (G.2.1 43)), (1, .int x1v), (2, .int x2v), (3, .int x3v)] [] μ (jn_X5_cost_76 x1v x2v x3v μ) kI := by
  rw [jn_X5_cost_76]
  refine v_iconst (n := 77) (v := 1) dX5_cost_76 ci_1 rfl ?_
  refine v_goto (tgt := 81) dX5_cost_77 (by decide) ?_
  exact vjn_X5_cost_81 G x1v x2v x3v (1 : Int32) μ
set_option maxRecDepth 100000 in
set_option maxHeartbeats 4000000 in
theorem vjn_X5_cost_43 (G : GG) (x1v : Int32) (x2v : Int32) (x3v : Int32) (s0v : Int32) (μ : Mem) : V G J_X5_cost 43 [(0, .ref (G.2.1 43)), (1, .int x1v), (2, .int x2v), (3, .int x3v)] [.int s0v] μ (jn_X5_cost_43 x1v x2v x3v s0v μ) kI := by
  rw [jn_X5_cost_43]
  refine v_istore (n := 45) [(4, .int s0v), (0, .ref (G.2.1 43)), (1, .int x1v), (2, .int x2v), (3, .int x3v)] dX5_cost_43 (by decide) rfl rfl ?_
  refine v_iload (n := 47) dX5_cost_45 0 rfl rfl ?_
  refine v_if_eq (tgt := 80) (n := 50) dX5_cost_47 (by decide) rfl ?_ ?_
  · exact v_sub [1, 2, 3, 4] rfl (vjn_X5_cost_80 G x1v x2v x3v μ)
  · refine v_iload_n (n := 51) dX5_cost_50 rfl 2 rfl rfl ?_
    refine v_iconst (n := 52) (v := 1) dX5_cost_51 ci_1 rfl ?_
    refine v_icmp_eq (tgt := 76) (n := 55) dX5_cost_52 (by decide) rfl ?_ ?_
    · exact v_sub [1, 2, 3, 4] rfl (vjn_X5_cost_76 G x1v x2v x3v μ)
    · refine v_aload_n (n := 56) dX5_cost_55 rfl 1 rfl rfl ?_
      refine v_iload_n (n := 57) dX5_cost_56 rfl 4 rfl rfl ?_
      refine v_cVi (n := 60) (st := []) [.int x3v] dX5_cost_57 (fun t ht => M_X5_isRight G x3v μ t ht) cal_X5_isRight mw201 (show isO 43 5 from rfl) rfl rfl (Nat.le_of_ble_eq_true rfl) ⟨Nat.le_of_ble_eq_true rfl, Nat.le_of_ble_eq_true rfl⟩ rfl (fun x6 μ5 => ?_)
      refine v_if_eq (tgt := 80) (n := 63) dX5_cost_60 (by decide) rfl ?_ ?_
      · exact v_sub [1, 2, 3, 4] rfl (vjn_X5_cost_80 G x1v x2v x3v μ5)
      · refine v_iload_n (n := 64) dX5_cost_63 rfl 4 rfl rfl ?_
        refine v_iload_n (n := 65) dX5_cost_64 rfl 2 rfl rfl ?_
        refine v_cSi (n := 68) (st := [.int x3v]) [.int x1v] dX5_cost_65 (fun t ht => M_X5_rightsOf G x1v μ5 t ht) cal_X5_rightsOf mw183 rfl rfl (Nat.le_of_ble_eq_true rfl) ⟨Nat.le_of_ble_eq_true rfl, Nat.le_of_ble_eq_true rfl⟩ rfl (fun x8 μ7 => ?_)
        refine v_iadd (n := 69) dX5_cost_68 rfl ?_
        refine v_aload_n (n := 70) dX5_cost_69 rfl 1 rfl rfl ?_
        refine v_getI (n := 73) (i := 6) dX5_cost_70 (show isO 43 5 from rfl) rfl fg_X5_83 rfl ?_
        refine v_icmp_gt (tgt := 80) (n := 76) dX5_cost_73 (by decide) rfl ?_ ?_
        · exact v_sub [1, 2, 3, 4] rfl (vjn_X5_cost_80 G x1v x2v x3v μ7)
        · exact v_sub [1, 2, 3, 4] rfl (vjn_X5_cost_76 G x1v x2v x3v μ7)
set_option maxRecDepth 100000 in
set_option maxHeartbeats 4000000 in
theorem vjn_X5_cost_38 (G : GG) (x1v : Int32) (x2v : Int32) (x3v : Int32) (μ : Mem) : V G J_X5_cost 38 [(0, .ref (G.2.1 43)), (1, .int x1v), (2, .int x2v), (3, .int x3v)] [] μ (jn_X5_cost_38 x1v x2v x3v μ) kI := by
  rw [jn_X5_cost_38]
  refine v_iconst (n := 39) (v := 1) dX5_cost_38 ci_1 rfl ?_
  refine v_goto (tgt := 43) dX5_cost_39 (by decide) ?_
  exact vjn_X5_cost_43 G x1v x2v x3v (1 : Int32) μ
set_option maxRecDepth 100000 in
set_option maxHeartbeats 4000000 in
theorem vjn_X5_cost_42 (G : GG) (x1v : Int32) (x2v : Int32) (x3v : Int32) (μ : Mem) : V G J_X5_cost 42 [(0, .ref (G.2.1 43)), (1, .int x1v), (2, .int x2v), (3, .int x3v)] [] μ (jn_X5_cost_42 x1v x2v x3v μ) kI := by
  rw [jn_X5_cost_42]
  refine v_iconst (n := 43) (v := 0) dX5_cost_42 ci_0 rfl ?_
  exact vjn_X5_cost_43 G x1v x2v x3v (0 : Int32) μ
set_option maxRecDepth 100000 in
set_option maxHeartbeats 4000000 in
theorem v_X5_cost (G : GG) (a1 : Int32) (a2 : Int32) (a3 : Int32) (μ : Mem) : V G J_X5_cost 0 [(0, .ref (G.2.1 43)), (1, .int a1), (2, .int a2), (3, .int a3)] [] μ (f_X5_cost a1 a2 a3 μ) kI := by
  rw [f_X5_cost]
  refine v_iload_n (n := 1) dX5_cost_0 rfl 1 rfl rfl ?_
  refine v_iconst (n := 2) (v := 0) dX5_cost_1 ci_0 rfl ?_
  refine v_iconst (n := 3) (v := 4) dX5_cost_2 ci_4 rfl ?_
  refine v_cSi (n := 6) (st := []) [.int a1, .int (0 : Int32), .int (4 : Int32)] dX5_cost_3 (fun t ht => M_X5_within G a1 (0 : Int32) (4 : Int32) μ t ht) cal_X5_within mw151 rfl rfl (Nat.le_of_ble_eq_true rfl) ⟨Nat.le_of_ble_eq_true rfl, Nat.le_of_ble_eq_true rfl⟩ rfl (fun x2 μ1 => ?_)
  refine v_if_ne (tgt := 12) (n := 9) dX5_cost_6 (by decide) rfl ?_ ?_
  · refine v_bipush (n := 11) (v := -2) dX5_cost_9 cb_m2 rfl ?_
    exact v_iret dX5_cost_11 rfl rfl
  · refine v_iload_n (n := 13) dX5_cost_12 rfl 1 rfl rfl ?_
    refine v_iconst (n := 14) (v := 2) dX5_cost_13 ci_2 rfl ?_
    refine v_icmp_eq (tgt := 38) (n := 17) dX5_cost_14 (by decide) rfl ?_ ?_
    · exact vjn_X5_cost_38 G a1 a2 a3 μ1
    · refine v_aload_n (n := 18) dX5_cost_17 rfl 0 rfl rfl ?_
      refine v_iload_n (n := 19) dX5_cost_18 rfl 2 rfl rfl ?_
      refine v_cVi (n := 22) (st := []) [.int a2] dX5_cost_19 (fun t ht => M_X5_isLeft G a2 μ1 t ht) cal_X5_isLeft mw198 (show isO 43 5 from rfl) rfl rfl (Nat.le_of_ble_eq_true rfl) ⟨Nat.le_of_ble_eq_true rfl, Nat.le_of_ble_eq_true rfl⟩ rfl (fun x10 μ9 => ?_)
      refine v_if_eq (tgt := 42) (n := 25) dX5_cost_22 (by decide) rfl ?_ ?_
      · exact vjn_X5_cost_42 G a1 a2 a3 μ9
      · refine v_iload_n (n := 26) dX5_cost_25 rfl 2 rfl rfl ?_
        refine v_iload_n (n := 27) dX5_cost_26 rfl 1 rfl rfl ?_
        refine v_cSi (n := 30) (st := [.int a2]) [.int a1] dX5_cost_27 (fun t ht => M_X5_leftsOf G a1 μ9 t ht) cal_X5_leftsOf mw180 rfl rfl (Nat.le_of_ble_eq_true rfl) ⟨Nat.le_of_ble_eq_true rfl, Nat.le_of_ble_eq_true rfl⟩ rfl (fun x12 μ11 => ?_)
        refine v_iadd (n := 31) dX5_cost_30 rfl ?_
        refine v_aload_n (n := 32) dX5_cost_31 rfl 0 rfl rfl ?_
        refine v_getI (n := 35) (i := 5) dX5_cost_32 (show isO 43 5 from rfl) rfl fg_X5_80 rfl ?_
        refine v_icmp_gt (tgt := 42) (n := 38) dX5_cost_35 (by decide) rfl ?_ ?_
        · exact vjn_X5_cost_42 G a1 a2 a3 μ11
        · exact vjn_X5_cost_38 G a1 a2 a3 μ11
theorem M_X5_cost (G : GG) (a1 : Int32) (a2 : Int32) (a3 : Int32) (μ : Mem) (t : Int32 × Mem) (ht : f_X5_cost a1 a2 a3 μ = some t) : GM G J_X5_cost yX5_cost [.ref (G.2.1 43), .int a1, .int a2, .int a3] μ (oI t) :=
  gm_of (J := J_X5_cost) (k := kI) rfl (by decide) (Nat.le_of_ble_eq_true rfl) (v_X5_cost G a1 a2 a3 μ) ht rfl
set_option maxRecDepth 100000 in
set_option maxHeartbeats 4000000 in
theorem vlp_X5_keep_2 (G : GG) (kk : (Mem) → Option Oc) (hx : ∀ (μ : Mem), V G J_X5_keep 41 [(0, .ref (G.2.1 43))] [] μ (kk μ) some) : ∀ (n : Nat) (x1v : Int32) (μ : Mem), V G J_X5_keep 2 [(0, .ref (G.2.1 43)), (1, .int x1v)] [] μ (lp_X5_keep_2 n x1v μ) kk := by
  intro n
  induction n with
  | zero => intro _ _; exact v_none
  | succ n ih =>
    intro x1v μ
    rw [lp_X5_keep_2]
    refine v_iload_n (n := 3) dX5_keep_2 rfl 1 rfl rfl ?_
    refine v_bipush (n := 5) (v := 7) dX5_keep_3 cb_7 rfl ?_
    refine v_icmp_ge (tgt := 41) (n := 8) dX5_keep_5 (by decide) rfl ?_ ?_
    · exact v_leaf (v_sub [0] rfl (hx  μ))
    · refine v_aload_n (n := 9) dX5_keep_8 rfl 0 rfl rfl ?_
      refine v_getR (n := 12) (i := 28) (q2 := 61) dX5_keep_9 (show isO 43 5 from rfl) rfl fg_X5_61 rfl ?_
      refine v_iload_n (n := 13) dX5_keep_12 rfl 1 rfl rfl ?_
      refine v_aload_n (n := 14) dX5_keep_13 rfl 0 rfl rfl ?_
      refine v_getR (n := 17) (i := 11) (q2 := 48) dX5_keep_14 (show isO 43 5 from rfl) rfl fg_X5_22 rfl ?_
      refine v_iload_n (n := 18) dX5_keep_17 rfl 1 rfl rfl ?_
      refine v_iald (n := 19) dX5_keep_18 (show isA 48 7 from rfl) rfl ?_
      refine v_iast (n := 20) dX5_keep_19 (show isA 61 17 from rfl) rfl ?_
      refine v_lm (fun μ1 => ?_)
      refine v_aload_n (n := 21) dX5_keep_20 rfl 0 rfl rfl ?_
      refine v_getR (n := 24) (i := 28) (q2 := 61) dX5_keep_21 (show isO 43 5 from rfl) rfl fg_X5_61 rfl ?_
      refine v_bipush (n := 26) (v := 7) dX5_keep_24 cb_7 rfl ?_
      refine v_iload_n (n := 27) dX5_keep_26 rfl 1 rfl rfl ?_
      refine v_iadd (n := 28) dX5_keep_27 rfl ?_
      refine v_aload_n (n := 29) dX5_keep_28 rfl 0 rfl rfl ?_
      refine v_getR (n := 32) (i := 13) (q2 := 50) dX5_keep_29 (show isO 43 5 from rfl) rfl fg_X5_28 rfl ?_
      refine v_iload_n (n := 33) dX5_keep_32 rfl 1 rfl rfl ?_
      refine v_iald (n := 34) dX5_keep_33 (show isA 50 7 from rfl) rfl ?_
      refine v_iast (n := 35) dX5_keep_34 (show isA 61 17 from rfl) rfl ?_
      refine v_lm (fun μ2 => ?_)
      refine v_iinc (n := 38) (w := 1) (fun x3 => [(1, .int x3), (0, .ref (G.2.1 43))]) dX5_keep_35 1 rfl ci_1 (by decide) (fun _ => rfl) rfl (fun x3 => ?_)
      refine v_goto (tgt := 2) dX5_keep_38 (by decide) ?_
      exact v_sub [1, 0] rfl (ih x3 μ2)
set_option maxRecDepth 100000 in
set_option maxHeartbeats 4000000 in
theorem v_X5_keep (G : GG) (μ : Mem) : V G J_X5_keep 0 [(0, .ref (G.2.1 43))] [] μ (f_X5_keep μ) kV := by
  rw [f_X5_keep]
  refine v_iconst (n := 1) (v := 0) dX5_keep_0 ci_0 rfl ?_
  refine v_istore_n (n := 2) [(1, .int (0 : Int32)), (0, .ref (G.2.1 43))] dX5_keep_1 rfl (by decide) rfl rfl ?_
  refine v_sub [1, 0] rfl ?_
  refine v_x1 (px := 41) (lx := (fun μ4 => [(0, .ref (G.2.1 43))])) (mx := (fun μ4 => μ4)) (fun kk hx => vlp_X5_keep_2 G  kk hx FU (0 : Int32) μ) (fun μ4 => ?_)
  refine v_aload_n (n := 42) dX5_keep_41 rfl 0 rfl rfl ?_
  refine v_getR (n := 45) (i := 28) (q2 := 61) dX5_keep_42 (show isO 43 5 from rfl) rfl fg_X5_61 rfl ?_
  refine v_bipush (n := 47) (v := 14) dX5_keep_45 cb_14 rfl ?_
  refine v_aload_n (n := 48) dX5_keep_47 rfl 0 rfl rfl ?_
  refine v_getI (n := 51) (i := 7) dX5_keep_48 (show isO 43 5 from rfl) rfl fg_X5_113 rfl ?_
  refine v_iast (n := 52) dX5_keep_51 (show isA 61 17 from rfl) rfl ?_
  refine v_lm (fun μ5 => ?_)
  refine v_aload_n (n := 53) dX5_keep_52 rfl 0 rfl rfl ?_
  refine v_getR (n := 56) (i := 28) (q2 := 61) dX5_keep_53 (show isO 43 5 from rfl) rfl fg_X5_61 rfl ?_
  refine v_bipush (n := 58) (v := 15) dX5_keep_56 cb_15 rfl ?_
  refine v_aload_n (n := 59) dX5_keep_58 rfl 0 rfl rfl ?_
  refine v_getI (n := 62) (i := 8) dX5_keep_59 (show isO 43 5 from rfl) rfl fg_X5_116 rfl ?_
  refine v_iast (n := 63) dX5_keep_62 (show isA 61 17 from rfl) rfl ?_
  refine v_lm (fun μ6 => ?_)
  refine v_aload_n (n := 64) dX5_keep_63 rfl 0 rfl rfl ?_
  refine v_getR (n := 67) (i := 28) (q2 := 61) dX5_keep_64 (show isO 43 5 from rfl) rfl fg_X5_61 rfl ?_
  refine v_bipush (n := 69) (v := 16) dX5_keep_67 cb_16 rfl ?_
  refine v_aload_n (n := 70) dX5_keep_69 rfl 0 rfl rfl ?_
  refine v_getI (n := 73) (i := 9) dX5_keep_70 (show isO 43 5 from rfl) rfl fg_X5_119 rfl ?_
  refine v_iast (n := 74) dX5_keep_73 (show isA 61 17 from rfl) rfl ?_
  refine v_lm (fun μ7 => ?_)
  exact v_vret dX5_keep_74 rfl rfl
theorem M_X5_keep (G : GG) (μ : Mem) (t : Mem) (ht : f_X5_keep μ = some t) : GM G J_X5_keep yX5_keep [.ref (G.2.1 43)] μ (oV t) :=
  gm_of (J := J_X5_keep) (k := kV) rfl (by decide) (Nat.le_of_ble_eq_true rfl) (v_X5_keep G μ) ht rfl
set_option maxRecDepth 100000 in
set_option maxHeartbeats 4000000 in
theorem vlp_X5_putBack_2 (G : GG) (kk : (Mem) → Option Oc) (hx : ∀ (μ : Mem), V G J_X5_putBack 41 [(0, .ref (G.2.1 43))] [] μ (kk μ) some) : ∀ (n : Nat) (x1v : Int32) (μ : Mem), V G J_X5_putBack 2 [(0, .ref (G.2.1 43)), (1, .int x1v)] [] μ (lp_X5_putBack_2 n x1v μ) kk := by
  intro n
  induction n with
  | zero => intro _ _; exact v_none
  | succ n ih =>
    intro x1v μ
    rw [lp_X5_putBack_2]
    refine v_iload_n (n := 3) dX5_putBack_2 rfl 1 rfl rfl ?_
    refine v_bipush (n := 5) (v := 7) dX5_putBack_3 cb_7 rfl ?_
    refine v_icmp_ge (tgt := 41) (n := 8) dX5_putBack_5 (by decide) rfl ?_ ?_
    · exact v_leaf (v_sub [0] rfl (hx  μ))
    · refine v_aload_n (n := 9) dX5_putBack_8 rfl 0 rfl rfl ?_
      refine v_getR (n := 12) (i := 11) (q2 := 48) dX5_putBack_9 (show isO 43 5 from rfl) rfl fg_X5_22 rfl ?_
      refine v_iload_n (n := 13) dX5_putBack_12 rfl 1 rfl rfl ?_
      refine v_aload_n (n := 14) dX5_putBack_13 rfl 0 rfl rfl ?_
      refine v_getR (n := 17) (i := 28) (q2 := 61) dX5_putBack_14 (show isO 43 5 from rfl) rfl fg_X5_61 rfl ?_
      refine v_iload_n (n := 18) dX5_putBack_17 rfl 1 rfl rfl ?_
      refine v_iald (n := 19) dX5_putBack_18 (show isA 61 17 from rfl) rfl ?_
      refine v_iast (n := 20) dX5_putBack_19 (show isA 48 7 from rfl) rfl ?_
      refine v_lm (fun μ1 => ?_)
      refine v_aload_n (n := 21) dX5_putBack_20 rfl 0 rfl rfl ?_
      refine v_getR (n := 24) (i := 13) (q2 := 50) dX5_putBack_21 (show isO 43 5 from rfl) rfl fg_X5_28 rfl ?_
      refine v_iload_n (n := 25) dX5_putBack_24 rfl 1 rfl rfl ?_
      refine v_aload_n (n := 26) dX5_putBack_25 rfl 0 rfl rfl ?_
      refine v_getR (n := 29) (i := 28) (q2 := 61) dX5_putBack_26 (show isO 43 5 from rfl) rfl fg_X5_61 rfl ?_
      refine v_bipush (n := 31) (v := 7) dX5_putBack_29 cb_7 rfl ?_
      refine v_iload_n (n := 32) dX5_putBack_31 rfl 1 rfl rfl ?_
      refine v_iadd (n := 33) dX5_putBack_32 rfl ?_
      refine v_iald (n := 34) dX5_putBack_33 (show isA 61 17 from rfl) rfl ?_
      refine v_iast (n := 35) dX5_putBack_34 (show isA 50 7 from rfl) rfl ?_
      refine v_lm (fun μ2 => ?_)
      refine v_iinc (n := 38) (w := 1) (fun x3 => [(1, .int x3), (0, .ref (G.2.1 43))]) dX5_putBack_35 1 rfl ci_1 (by decide) (fun _ => rfl) rfl (fun x3 => ?_)
      refine v_goto (tgt := 2) dX5_putBack_38 (by decide) ?_
      exact v_sub [1, 0] rfl (ih x3 μ2)
set_option maxRecDepth 100000 in
set_option maxHeartbeats 4000000 in
theorem v_X5_putBack (G : GG) (μ : Mem) : V G J_X5_putBack 0 [(0, .ref (G.2.1 43))] [] μ (f_X5_putBack μ) kV := by
  rw [f_X5_putBack]
  refine v_iconst (n := 1) (v := 0) dX5_putBack_0 ci_0 rfl ?_
  refine v_istore_n (n := 2) [(1, .int (0 : Int32)), (0, .ref (G.2.1 43))] dX5_putBack_1 rfl (by decide) rfl rfl ?_
  refine v_sub [1, 0] rfl ?_
  refine v_x1 (px := 41) (lx := (fun μ4 => [(0, .ref (G.2.1 43))])) (mx := (fun μ4 => μ4)) (fun kk hx => vlp_X5_putBack_2 G  kk hx FU (0 : Int32) μ) (fun μ4 => ?_)
  refine v_aload_n (n := 42) dX5_putBack_41 rfl 0 rfl rfl ?_
  refine v_aload_n (n := 43) dX5_putBack_42 rfl 0 rfl rfl ?_
  refine v_getR (n := 46) (i := 28) (q2 := 61) dX5_putBack_43 (show isO 43 5 from rfl) rfl fg_X5_61 rfl ?_
  refine v_bipush (n := 48) (v := 14) dX5_putBack_46 cb_14 rfl ?_
  refine v_iald (n := 49) dX5_putBack_48 (show isA 61 17 from rfl) rfl ?_
  refine v_put (n := 52) (i := 7) dX5_putBack_49 (show isO 43 5 from rfl) rfl fp_X5_113 rfl rfl rfl ?_
  refine v_lm (fun μ5 => ?_)
  refine v_aload_n (n := 53) dX5_putBack_52 rfl 0 rfl rfl ?_
  refine v_aload_n (n := 54) dX5_putBack_53 rfl 0 rfl rfl ?_
  refine v_getR (n := 57) (i := 28) (q2 := 61) dX5_putBack_54 (show isO 43 5 from rfl) rfl fg_X5_61 rfl ?_
  refine v_bipush (n := 59) (v := 15) dX5_putBack_57 cb_15 rfl ?_
  refine v_iald (n := 60) dX5_putBack_59 (show isA 61 17 from rfl) rfl ?_
  refine v_put (n := 63) (i := 8) dX5_putBack_60 (show isO 43 5 from rfl) rfl fp_X5_116 rfl rfl rfl ?_
  refine v_lm (fun μ6 => ?_)
  refine v_aload_n (n := 64) dX5_putBack_63 rfl 0 rfl rfl ?_
  refine v_aload_n (n := 65) dX5_putBack_64 rfl 0 rfl rfl ?_
  refine v_getR (n := 68) (i := 28) (q2 := 61) dX5_putBack_65 (show isO 43 5 from rfl) rfl fg_X5_61 rfl ?_
  refine v_bipush (n := 70) (v := 16) dX5_putBack_68 cb_16 rfl ?_
  refine v_iald (n := 71) dX5_putBack_70 (show isA 61 17 from rfl) rfl ?_
  refine v_put (n := 74) (i := 9) dX5_putBack_71 (show isO 43 5 from rfl) rfl fp_X5_119 rfl rfl rfl ?_
  refine v_lm (fun μ7 => ?_)
  exact v_vret dX5_putBack_74 rfl rfl
theorem M_X5_putBack (G : GG) (μ : Mem) (t : Mem) (ht : f_X5_putBack μ = some t) : GM G J_X5_putBack yX5_putBack [.ref (G.2.1 43)] μ (oV t) :=
  gm_of (J := J_X5_putBack) (k := kV) rfl (by decide) (Nat.le_of_ble_eq_true rfl) (v_X5_putBack G μ) ht rfl
set_option maxRecDepth 100000 in
set_option maxHeartbeats 4000000 in
theorem vjn_X5_does_92 (G : GG) (x1v : Int32) (x2v : Int32) (μ : Mem) : V G J_X5_does 92 [(0, .ref (G.2.1 43)), (1, .int x1v), (2, .int x2v)] [] μ (jn_X5_does_92 x1v x2v μ) kI := by
  rw [jn_X5_does_92]
  refine v_iload_n (n := 93) dX5_does_92 rfl 2 rfl rfl ?_
  refine v_bipush (n := 95) (v := 10) dX5_does_93 cb_10 rfl ?_
  refine v_icmp_lt (tgt := 111) (n := 98) dX5_does_95 (by decide) rfl ?_ ?_
  · refine v_aload_n (n := 112) dX5_does_111 rfl 0 rfl rfl ?_
    refine v_getR (n := 115) (i := 11) (q2 := 48) dX5_does_112 (show isO 43 5 from rfl) rfl fg_X5_22 rfl ?_
    refine v_iload_n (n := 116) dX5_does_115 rfl 2 rfl rfl ?_
    refine v_iload_n (n := 117) dX5_does_116 rfl 1 rfl rfl ?_
    refine v_iast (n := 118) dX5_does_117 (show isA 48 7 from rfl) rfl ?_
    refine v_lm (fun μ3 => ?_)
    refine v_iconst (n := 119) (v := 1) dX5_does_118 ci_1 rfl ?_
    exact v_zret dX5_does_119 rfl (by decide) rfl
  · refine v_aload_n (n := 99) dX5_does_98 rfl 0 rfl rfl ?_
    refine v_getR (n := 102) (i := 13) (q2 := 50) dX5_does_99 (show isO 43 5 from rfl) rfl fg_X5_28 rfl ?_
    refine v_iload_n (n := 103) dX5_does_102 rfl 2 rfl rfl ?_
    refine v_bipush (n := 105) (v := 10) dX5_does_103 cb_10 rfl ?_
    refine v_isub (n := 106) dX5_does_105 rfl ?_
    refine v_iload_n (n := 107) dX5_does_106 rfl 1 rfl rfl ?_
    refine v_iast (n := 108) dX5_does_107 (show isA 50 7 from rfl) rfl ?_
    refine v_lm (fun μ4 => ?_)
    refine v_goto (tgt := 118) dX5_does_108 (by decide) ?_
    refine v_iconst (n := 119) (v := 1) dX5_does_118 ci_1 rfl ?_
    exact v_zret dX5_does_119 rfl (by decide) rfl
set_option maxRecDepth 100000 in
set_option maxHeartbeats 4000000 in
theorem vjn_X5_does_39 (G : GG) (x1v : Int32) (x2v : Int32) (s0v : Int32) (μ : Mem) : V G J_X5_does 39 [(0, .ref (G.2.1 43)), (1, .int x1v), (2, .int x2v)] [.int s0v, .ref (G.2.1 43)] μ (jn_X5_does_39 x1v x2v s0v μ) kI := by
  rw [jn_X5_does_39]
  refine v_put (n := 42) (i := 8) dX5_does_39 (show isO 43 5 from rfl) rfl fp_X5_116 rfl rfl rfl ?_
  refine v_lm (fun μ8 => ?_)
  refine v_aload_n (n := 43) dX5_does_42 rfl 0 rfl rfl ?_
  refine v_iload_n (n := 44) dX5_does_43 rfl 2 rfl rfl ?_
  refine v_bipush (n := 46) (v := 22) dX5_does_44 cb_22 rfl ?_
  refine v_icmp_ne (tgt := 53) (n := 49) dX5_does_46 (by decide) rfl ?_ ?_
  · refine v_iload_n (n := 50) dX5_does_49 rfl 1 rfl rfl ?_
    refine v_goto (tgt := 57) dX5_does_50 (by decide) ?_
    refine v_put (n := 60) (i := 9) dX5_does_57 (show isO 43 5 from rfl) rfl fp_X5_119 rfl rfl rfl ?_
    refine v_lm (fun μ10 => ?_)
    refine v_iconst (n := 61) (v := 1) dX5_does_60 ci_1 rfl ?_
    exact v_zret dX5_does_61 rfl (by decide) rfl
  · refine v_aload_n (n := 54) dX5_does_53 rfl 0 rfl rfl ?_
    refine v_getI (n := 57) (i := 9) dX5_does_54 (show isO 43 5 from rfl) rfl fg_X5_119 rfl ?_
    refine v_put (n := 60) (i := 9) dX5_does_57 (show isO 43 5 from rfl) rfl fp_X5_119 rfl rfl rfl ?_
    refine v_lm (fun μ9 => ?_)
    refine v_iconst (n := 61) (v := 1) dX5_does_60 ci_1 rfl ?_
    exact v_zret dX5_does_61 rfl (by decide) rfl
set_option maxRecDepth 100000 in
set_option maxHeartbeats 4000000 in
theorem vjn_X5_does_21 (G : GG) (x1v : Int32) (x2v : Int32) (s0v : Int32) (μ : Mem) : V G J_X5_does 21 [(0, .ref (G.2.1 43)), (1, .int x1v), (2, .int x2v)] [.int s0v, .ref (G.2.1 43)] μ (jn_X5_does_21 x1v x2v s0v μ) kI := by
  rw [jn_X5_does_21]
  refine v_put (n := 24) (i := 7) dX5_does_21 (show isO 43 5 from rfl) rfl fp_X5_113 rfl rfl rfl ?_
  refine v_lm (fun μ7 => ?_)
  refine v_aload_n (n := 25) dX5_does_24 rfl 0 rfl rfl ?_
  refine v_iload_n (n := 26) dX5_does_25 rfl 2 rfl rfl ?_
  refine v_bipush (n := 28) (v := 21) dX5_does_26 cb_21 rfl ?_
  refine v_icmp_ne (tgt := 35) (n := 31) dX5_does_28 (by decide) rfl ?_ ?_
  · refine v_iload_n (n := 32) dX5_does_31 rfl 1 rfl rfl ?_
    refine v_goto (tgt := 39) dX5_does_32 (by decide) ?_
    exact vjn_X5_does_39 G x1v x2v x1v μ7
  · refine v_aload_n (n := 36) dX5_does_35 rfl 0 rfl rfl ?_
    refine v_getI (n := 39) (i := 8) dX5_does_36 (show isO 43 5 from rfl) rfl fg_X5_116 rfl ?_
    exact vjn_X5_does_39 G x1v x2v (μ7 43 8) μ7
set_option maxRecDepth 100000 in
set_option maxHeartbeats 4000000 in
theorem v_X5_does (G : GG) (a1 : Int32) (a2 : Int32) (μ : Mem) : V G J_X5_does 0 [(0, .ref (G.2.1 43)), (1, .int a1), (2, .int a2)] [] μ (f_X5_does a1 a2 μ) kI := by
  rw [f_X5_does]
  refine v_iload_n (n := 1) dX5_does_0 rfl 2 rfl rfl ?_
  refine v_bipush (n := 3) (v := 20) dX5_does_1 cb_20 rfl ?_
  refine v_icmp_lt (tgt := 62) (n := 6) dX5_does_3 (by decide) rfl ?_ ?_
  · refine v_iload_n (n := 63) dX5_does_62 rfl 2 rfl rfl ?_
    refine v_bipush (n := 65) (v := 10) dX5_does_63 cb_10 rfl ?_
    refine v_icmp_lt (tgt := 82) (n := 68) dX5_does_65 (by decide) rfl ?_ ?_
    · refine v_aload_n (n := 83) dX5_does_82 rfl 0 rfl rfl ?_
      refine v_iload_n (n := 84) dX5_does_83 rfl 2 rfl rfl ?_
      refine v_cVi (n := 87) (st := []) [.int a2] dX5_does_84 (fun t ht => M_X5_isLeft G a2 μ t ht) cal_X5_isLeft mw198 (show isO 43 5 from rfl) rfl rfl (Nat.le_of_ble_eq_true rfl) ⟨Nat.le_of_ble_eq_true rfl, Nat.le_of_ble_eq_true rfl⟩ rfl (fun x2 μ1 => ?_)
      refine v_if_ne (tgt := 92) (n := 90) dX5_does_87 (by decide) rfl ?_ ?_
      · refine v_iconst (n := 91) (v := 0) dX5_does_90 ci_0 rfl ?_
        exact v_zret dX5_does_91 rfl (by decide) rfl
      · exact vjn_X5_does_92 G a1 a2 μ1
    · refine v_aload_n (n := 69) dX5_does_68 rfl 0 rfl rfl ?_
      refine v_iload_n (n := 70) dX5_does_69 rfl 2 rfl rfl ?_
      refine v_bipush (n := 72) (v := 10) dX5_does_70 cb_10 rfl ?_
      refine v_isub (n := 73) dX5_does_72 rfl ?_
      refine v_cVi (n := 76) (st := []) [.int (a2 - (10 : Int32))] dX5_does_73 (fun t ht => M_X5_isRight G (a2 - (10 : Int32)) μ t ht) cal_X5_isRight mw201 (show isO 43 5 from rfl) rfl rfl (Nat.le_of_ble_eq_true rfl) ⟨Nat.le_of_ble_eq_true rfl, Nat.le_of_ble_eq_true rfl⟩ rfl (fun x6 μ5 => ?_)
      refine v_if_ne (tgt := 92) (n := 79) dX5_does_76 (by decide) rfl ?_ ?_
      · refine v_goto (tgt := 90) dX5_does_79 (by decide) ?_
        refine v_iconst (n := 91) (v := 0) dX5_does_90 ci_0 rfl ?_
        exact v_zret dX5_does_91 rfl (by decide) rfl
      · exact vjn_X5_does_92 G a1 a2 μ5
  · refine v_aload_n (n := 7) dX5_does_6 rfl 0 rfl rfl ?_
    refine v_iload_n (n := 8) dX5_does_7 rfl 2 rfl rfl ?_
    refine v_bipush (n := 10) (v := 20) dX5_does_8 cb_20 rfl ?_
    refine v_icmp_ne (tgt := 17) (n := 13) dX5_does_10 (by decide) rfl ?_ ?_
    · refine v_iload_n (n := 14) dX5_does_13 rfl 1 rfl rfl ?_
      refine v_goto (tgt := 21) dX5_does_14 (by decide) ?_
      exact vjn_X5_does_21 G a1 a2 a1 μ
    · refine v_aload_n (n := 18) dX5_does_17 rfl 0 rfl rfl ?_
      refine v_getI (n := 21) (i := 7) dX5_does_18 (show isO 43 5 from rfl) rfl fg_X5_113 rfl ?_
      exact vjn_X5_does_21 G a1 a2 (μ 43 7) μ
theorem M_X5_does (G : GG) (a1 : Int32) (a2 : Int32) (μ : Mem) (t : Int32 × Mem) (ht : f_X5_does a1 a2 μ = some t) : GM G J_X5_does yX5_does [.ref (G.2.1 43), .int a1, .int a2] μ (oI t) :=
  gm_of (J := J_X5_does) (k := kI) rfl (by decide) (Nat.le_of_ble_eq_true rfl) (v_X5_does G a1 a2 μ) ht rfl
set_option maxRecDepth 100000 in
set_option maxHeartbeats 4000000 in
theorem vjn_X5_isPair_51 (G : GG) (x0v : Int32) (μ : Mem) : V G J_X5_isPair 51 [(0, .int x0v)] [] μ (jn_X5_isPair_51 x0v μ) kI := by
  rw [jn_X5_isPair_51]
  refine v_iload_n (n := 52) dX5_isPair_51 rfl 0 rfl rfl ?_
  refine v_iconst (n := 53) (v := 1) dX5_isPair_52 ci_1 rfl ?_
  refine v_bipush (n := 55) (v := 9) dX5_isPair_53 cb_9 rfl ?_
  refine v_cSi (n := 58) (st := []) [.int x0v, .int (1 : Int32), .int (9 : Int32)] dX5_isPair_55 (fun t ht => M_X5_within G x0v (1 : Int32) (9 : Int32) μ t ht) cal_X5_within mw151 rfl rfl (Nat.le_of_ble_eq_true rfl) ⟨Nat.le_of_ble_eq_true rfl, Nat.le_of_ble_eq_true rfl⟩ rfl (fun x6 μ5 => ?_)
  refine v_if_eq (tgt := 65) (n := 61) dX5_isPair_58 (by decide) rfl ?_ ?_
  · refine v_iconst (n := 66) (v := 0) dX5_isPair_65 ci_0 rfl ?_
    exact v_zret dX5_isPair_66 rfl (by decide) rfl
  · refine v_iconst (n := 62) (v := 1) dX5_isPair_61 ci_1 rfl ?_
    refine v_goto (tgt := 66) dX5_isPair_62 (by decide) ?_
    exact v_zret dX5_isPair_66 rfl (by decide) rfl
set_option maxRecDepth 100000 in
set_option maxHeartbeats 4000000 in
theorem v_X5_isPair (G : GG) (a0 : Int32) (a1 : Int32) (μ : Mem) : V G J_X5_isPair 0 [(0, .int a0), (1, .int a1)] [] μ (f_X5_isPair a0 a1 μ) kI := by
  rw [f_X5_isPair]
  refine v_iload_n (n := 1) dX5_isPair_0 rfl 1 rfl rfl ?_
  refine v_bipush (n := 3) (v := 20) dX5_isPair_1 cb_20 rfl ?_
  refine v_bipush (n := 5) (v := 22) dX5_isPair_3 cb_22 rfl ?_
  refine v_cSi (n := 8) (st := []) [.int a1, .int (20 : Int32), .int (22 : Int32)] dX5_isPair_5 (fun t ht => M_X5_within G a1 (20 : Int32) (22 : Int32) μ t ht) cal_X5_within mw151 rfl rfl (Nat.le_of_ble_eq_true rfl) ⟨Nat.le_of_ble_eq_true rfl, Nat.le_of_ble_eq_true rfl⟩ rfl (fun x2 μ1 => ?_)
  refine v_if_eq (tgt := 30) (n := 11) dX5_isPair_8 (by decide) rfl ?_ ?_
  · refine v_iload_n (n := 31) dX5_isPair_30 rfl 1 rfl rfl ?_
    refine v_iconst (n := 32) (v := 0) dX5_isPair_31 ci_0 rfl ?_
    refine v_bipush (n := 34) (v := 6) dX5_isPair_32 cb_6 rfl ?_
    refine v_cSi (n := 37) (st := []) [.int a1, .int (0 : Int32), .int (6 : Int32)] dX5_isPair_34 (fun t ht => M_X5_within G a1 (0 : Int32) (6 : Int32) μ1 t ht) cal_X5_within mw151 rfl rfl (Nat.le_of_ble_eq_true rfl) ⟨Nat.le_of_ble_eq_true rfl, Nat.le_of_ble_eq_true rfl⟩ rfl (fun x4 μ3 => ?_)
    refine v_if_ne (tgt := 51) (n := 40) dX5_isPair_37 (by decide) rfl ?_ ?_
    · refine v_iload_n (n := 41) dX5_isPair_40 rfl 1 rfl rfl ?_
      refine v_bipush (n := 43) (v := 10) dX5_isPair_41 cb_10 rfl ?_
      refine v_bipush (n := 45) (v := 16) dX5_isPair_43 cb_16 rfl ?_
      refine v_cSi (n := 48) (st := []) [.int a1, .int (10 : Int32), .int (16 : Int32)] dX5_isPair_45 (fun t ht => M_X5_within G a1 (10 : Int32) (16 : Int32) μ3 t ht) cal_X5_within mw151 rfl rfl (Nat.le_of_ble_eq_true rfl) ⟨Nat.le_of_ble_eq_true rfl, Nat.le_of_ble_eq_true rfl⟩ rfl (fun x8 μ7 => ?_)
      refine v_if_eq (tgt := 65) (n := 51) dX5_isPair_48 (by decide) rfl ?_ ?_
      · refine v_iconst (n := 66) (v := 0) dX5_isPair_65 ci_0 rfl ?_
        exact v_zret dX5_isPair_66 rfl (by decide) rfl
      · exact v_sub [0] rfl (vjn_X5_isPair_51 G a0 μ7)
    · exact v_sub [0] rfl (vjn_X5_isPair_51 G a0 μ3)
  · refine v_iload_n (n := 12) dX5_isPair_11 rfl 0 rfl rfl ?_
    refine v_iconst (n := 13) (v := 0) dX5_isPair_12 ci_0 rfl ?_
    refine v_iload_n (n := 14) dX5_isPair_13 rfl 1 rfl rfl ?_
    refine v_bipush (n := 16) (v := 22) dX5_isPair_14 cb_22 rfl ?_
    refine v_icmp_ne (tgt := 24) (n := 19) dX5_isPair_16 (by decide) rfl ?_ ?_
    · refine v_bipush (n := 21) (v := 7) dX5_isPair_19 cb_7 rfl ?_
      refine v_goto (tgt := 26) dX5_isPair_21 (by decide) ?_
      refine v_cSi (n := 29) (st := []) [.int a0, .int (0 : Int32), .int (7 : Int32)] dX5_isPair_26 (fun t ht => M_X5_within G a0 (0 : Int32) (7 : Int32) μ1 t ht) cal_X5_within mw151 rfl rfl (Nat.le_of_ble_eq_true rfl) ⟨Nat.le_of_ble_eq_true rfl, Nat.le_of_ble_eq_true rfl⟩ rfl (fun x12 μ11 => ?_)
      exact v_zretV dX5_isPair_29 rfl rfl
    · refine v_bipush (n := 26) (v := 9) dX5_isPair_24 cb_9 rfl ?_
      refine v_cSi (n := 29) (st := []) [.int a0, .int (0 : Int32), .int (9 : Int32)] dX5_isPair_26 (fun t ht => M_X5_within G a0 (0 : Int32) (9 : Int32) μ1 t ht) cal_X5_within mw151 rfl rfl (Nat.le_of_ble_eq_true rfl) ⟨Nat.le_of_ble_eq_true rfl, Nat.le_of_ble_eq_true rfl⟩ rfl (fun x10 μ9 => ?_)
      exact v_zretV dX5_isPair_29 rfl rfl
theorem M_X5_isPair (G : GG) (a0 : Int32) (a1 : Int32) (μ : Mem) (t : Int32 × Mem) (ht : f_X5_isPair a0 a1 μ = some t) : GM G J_X5_isPair yX5_isPair [.int a0, .int a1] μ (oI t) :=
  gm_of (J := J_X5_isPair) (k := kI) rfl (by decide) (Nat.le_of_ble_eq_true rfl) (v_X5_isPair G a0 a1 μ) ht rfl
set_option maxRecDepth 100000 in
set_option maxHeartbeats 4000000 in
theorem vlp_X5_goDay_2 (G : GG) (x1v : Int32) (x2v : Int32) (kk : ((Mem) ⊕ (Int32 × Mem)) → Option Oc) (hx : ∀ (μ : Mem), V G J_X5_goDay 44 [] [] μ (kk (.inl μ)) some) (ho : ∀ t, kk (.inr t) = some (oI t)) : ∀ (n : Nat) (x3v : Int32) (μ : Mem), V G J_X5_goDay 2 [(0, .ref (G.2.1 43)), (1, .int x1v), (2, .int x2v), (3, .int x3v)] [] μ (lp_X5_goDay_2 x1v x2v n x3v μ) kk := by
  intro n
  induction n with
  | zero => intro _ _; exact v_none
  | succ n ih =>
    intro x3v μ
    rw [lp_X5_goDay_2]
    refine v_iload_n (n := 3) dX5_goDay_2 rfl 3 rfl rfl ?_
    refine v_iload_n (n := 4) dX5_goDay_3 rfl 2 rfl rfl ?_
    refine v_icmp_ge (tgt := 44) (n := 7) dX5_goDay_4 (by decide) rfl ?_ ?_
    · exact v_leaf (v_sub [] rfl (hx  μ))
    · refine v_aload_n (n := 8) dX5_goDay_7 rfl 0 rfl rfl ?_
      refine v_aload_n (n := 9) dX5_goDay_8 rfl 0 rfl rfl ?_
      refine v_getR (n := 12) (i := 4) (q2 := 46) dX5_goDay_9 (show isO 43 5 from rfl) rfl fg_X5_16 rfl ?_
      refine v_iload_n (n := 13) dX5_goDay_12 rfl 1 rfl rfl ?_
      refine v_iconst (n := 14) (v := 2) dX5_goDay_13 ci_2 rfl ?_
      refine v_iload_n (n := 15) dX5_goDay_14 rfl 3 rfl rfl ?_
      refine v_imul (n := 16) dX5_goDay_15 rfl ?_
      refine v_iadd (n := 17) dX5_goDay_16 rfl ?_
      refine v_iald (n := 18) dX5_goDay_17 (show isA 46 240 from rfl) rfl ?_
      refine v_aload_n (n := 19) dX5_goDay_18 rfl 0 rfl rfl ?_
      refine v_getR (n := 22) (i := 4) (q2 := 46) dX5_goDay_19 (show isO 43 5 from rfl) rfl fg_X5_16 rfl ?_
      refine v_iload_n (n := 23) dX5_goDay_22 rfl 1 rfl rfl ?_
      refine v_iconst (n := 24) (v := 2) dX5_goDay_23 ci_2 rfl ?_
      refine v_iload_n (n := 25) dX5_goDay_24 rfl 3 rfl rfl ?_
      refine v_imul (n := 26) dX5_goDay_25 rfl ?_
      refine v_iadd (n := 27) dX5_goDay_26 rfl ?_
      refine v_iconst (n := 28) (v := 1) dX5_goDay_27 ci_1 rfl ?_
      refine v_iadd (n := 29) dX5_goDay_28 rfl ?_
      refine v_iald (n := 30) dX5_goDay_29 (show isA 46 240 from rfl) rfl ?_
      refine v_cVi (n := 33) (st := []) [.int (μ 46 (x1v + ((2 : Int32) * x3v)).toNatClampNeg), .int (μ 46 ((x1v + ((2 : Int32) * x3v)) + (1 : Int32)).toNatClampNeg)] dX5_goDay_30 (fun t ht => M_X5_does G (μ 46 (x1v + ((2 : Int32) * x3v)).toNatClampNeg) (μ 46 ((x1v + ((2 : Int32) * x3v)) + (1 : Int32)).toNatClampNeg) μ t ht) cal_X5_does mw205 (show isO 43 5 from rfl) rfl rfl (Nat.le_of_ble_eq_true rfl) ⟨Nat.le_of_ble_eq_true rfl, Nat.le_of_ble_eq_true rfl⟩ rfl (fun x2 μ1 => ?_)
      refine v_if_ne (tgt := 38) (n := 36) dX5_goDay_33 (by decide) rfl ?_ ?_
      · refine v_iload_n (n := 37) dX5_goDay_36 rfl 3 rfl rfl ?_
        exact v_iret dX5_goDay_37 rfl (ho _)
      · refine v_iinc (n := 41) (w := 1) (fun x3 => [(3, .int x3), (0, .ref (G.2.1 43)), (1, .int x1v), (2, .int x2v)]) dX5_goDay_38 3 rfl ci_1 (by decide) (fun _ => rfl) rfl (fun x3 => ?_)
        refine v_goto (tgt := 2) dX5_goDay_41 (by decide) ?_
        exact v_sub [1, 2, 3, 0] rfl (ih x3 μ1)
set_option maxRecDepth 100000 in
set_option maxHeartbeats 4000000 in
theorem v_X5_goDay (G : GG) (a1 : Int32) (a2 : Int32) (μ : Mem) : V G J_X5_goDay 0 [(0, .ref (G.2.1 43)), (1, .int a1), (2, .int a2)] [] μ (f_X5_goDay a1 a2 μ) kI := by
  rw [f_X5_goDay]
  refine v_iconst (n := 1) (v := 0) dX5_goDay_0 ci_0 rfl ?_
  refine v_istore_n (n := 2) [(3, .int (0 : Int32)), (0, .ref (G.2.1 43)), (1, .int a1), (2, .int a2)] dX5_goDay_1 rfl (by decide) rfl rfl ?_
  refine v_sub [1, 2, 3, 0] rfl ?_
  refine v_s1 (px := 44) (lx := (fun μ4 => [])) (mx := (fun μ4 => μ4)) (oX := oI) (fun kk hx ho => vlp_X5_goDay_2 G a1 a2 kk hx ho FU (0 : Int32) μ) (fun _ => rfl) (fun μ4 => ?_)
  refine v_bipush (n := 46) (v := -9) dX5_goDay_44 cb_m9 rfl ?_
  exact v_iret dX5_goDay_46 rfl rfl
theorem M_X5_goDay (G : GG) (a1 : Int32) (a2 : Int32) (μ : Mem) (t : Int32 × Mem) (ht : f_X5_goDay a1 a2 μ = some t) : GM G J_X5_goDay yX5_goDay [.ref (G.2.1 43), .int a1, .int a2] μ (oI t) :=
  gm_of (J := J_X5_goDay) (k := kI) rfl (by decide) (Nat.le_of_ble_eq_true rfl) (v_X5_goDay G a1 a2 μ) ht rfl
set_option maxRecDepth 100000 in
set_option maxHeartbeats 4000000 in
theorem v_X5_tellDay (G : GG) (a1 : Int32) (μ : Mem) : V G J_X5_tellDay 0 [(0, .ref (G.2.1 43)), (1, .int a1)] [] μ (f_X5_tellDay a1 μ) kI := by
  rw [f_X5_tellDay]
  refine v_iload_n (n := 1) dX5_tellDay_0 rfl 1 rfl rfl ?_
  refine v_bipush (n := 3) (v := 10) dX5_tellDay_1 cb_10 rfl ?_
  refine v_icmp_ge (tgt := 12) (n := 6) dX5_tellDay_3 (by decide) rfl ?_ ?_
  · refine v_aload_n (n := 13) dX5_tellDay_12 rfl 0 rfl rfl ?_
    refine v_cVi (n := 16) (st := []) [] dX5_tellDay_13 (fun t ht => M_X5_findBest G μ t ht) cal_X5_findBest mw199 (show isO 43 5 from rfl) rfl rfl (Nat.le_of_ble_eq_true rfl) ⟨Nat.le_of_ble_eq_true rfl, Nat.le_of_ble_eq_true rfl⟩ rfl (fun x2 μ1 => ?_)
    refine v_pop (n := 17) dX5_tellDay_16 rfl rfl ?_
    refine v_aload_n (n := 18) dX5_tellDay_17 rfl 0 rfl rfl ?_
    refine v_iload_n (n := 19) dX5_tellDay_18 rfl 1 rfl rfl ?_
    refine v_bipush (n := 21) (v := 10) dX5_tellDay_19 cb_10 rfl ?_
    refine v_isub (n := 22) dX5_tellDay_21 rfl ?_
    refine v_cVi (n := 25) (st := []) [.int (a1 - (10 : Int32))] dX5_tellDay_22 (fun t ht => M_X5_isLeft G (a1 - (10 : Int32)) μ1 t ht) cal_X5_isLeft mw198 (show isO 43 5 from rfl) rfl rfl (Nat.le_of_ble_eq_true rfl) ⟨Nat.le_of_ble_eq_true rfl, Nat.le_of_ble_eq_true rfl⟩ rfl (fun x4 μ3 => ?_)
    refine v_if_eq (tgt := 40) (n := 28) dX5_tellDay_25 (by decide) rfl ?_ ?_
    · refine v_bipush (n := 42) (v := -9) dX5_tellDay_40 cb_m9 rfl ?_
      exact v_iret dX5_tellDay_42 rfl rfl
    · refine v_aload_n (n := 29) dX5_tellDay_28 rfl 0 rfl rfl ?_
      refine v_iconst (n := 30) (v := 0) dX5_tellDay_29 ci_0 rfl ?_
      refine v_iload_n (n := 31) dX5_tellDay_30 rfl 1 rfl rfl ?_
      refine v_bipush (n := 33) (v := 10) dX5_tellDay_31 cb_10 rfl ?_
      refine v_isub (n := 34) dX5_tellDay_33 rfl ?_
      refine v_cVi (n := 37) (st := []) [.int (0 : Int32), .int (a1 - (10 : Int32))] dX5_tellDay_34 (fun t ht => M_X5_pairedWith G (0 : Int32) (a1 - (10 : Int32)) μ3 t ht) cal_X5_pairedWith mw200 (show isO 43 5 from rfl) rfl rfl (Nat.le_of_ble_eq_true rfl) ⟨Nat.le_of_ble_eq_true rfl, Nat.le_of_ble_eq_true rfl⟩ rfl (fun x6 μ5 => ?_)
      refine v_goto (tgt := 42) dX5_tellDay_37 (by decide) ?_
      exact v_iret dX5_tellDay_42 rfl rfl
  · refine v_aload_n (n := 7) dX5_tellDay_6 rfl 0 rfl rfl ?_
    refine v_iload_n (n := 8) dX5_tellDay_7 rfl 1 rfl rfl ?_
    refine v_cVi (n := 11) (st := []) [.int a1] dX5_tellDay_8 (fun t ht => M_X5_tellBest G a1 μ t ht) cal_X5_tellBest mw203 (show isO 43 5 from rfl) rfl rfl (Nat.le_of_ble_eq_true rfl) ⟨Nat.le_of_ble_eq_true rfl, Nat.le_of_ble_eq_true rfl⟩ rfl (fun x8 μ7 => ?_)
    exact v_iret dX5_tellDay_11 rfl rfl
theorem M_X5_tellDay (G : GG) (a1 : Int32) (μ : Mem) (t : Int32 × Mem) (ht : f_X5_tellDay a1 μ = some t) : GM G J_X5_tellDay yX5_tellDay [.ref (G.2.1 43), .int a1] μ (oI t) :=
  gm_of (J := J_X5_tellDay) (k := kI) rfl (by decide) (Nat.le_of_ble_eq_true rfl) (v_X5_tellDay G a1 μ) ht rfl
set_option maxRecDepth 100000 in
set_option maxHeartbeats 4000000 in
theorem vlp_X5_day_103 (G : GG) (x4v : Int32) (x5v : Int32) (x7v : Int32) (kk : ((Mem) ⊕ (Int32 × Mem)) → Option Oc) (hx : ∀ (μ : Mem), V G J_X5_day 151 [(0, .ref (G.2.1 43)), (4, .int x4v), (5, .int x5v), (7, .int x7v)] [] μ (kk (.inl μ)) some) (ho : ∀ t, kk (.inr t) = some (oI t)) : ∀ (n : Nat) (x8v : Int32) (μ : Mem), V G J_X5_day 103 [(0, .ref (G.2.1 43)), (4, .int x4v), (5, .int x5v), (7, .int x7v), (8, .int x8v)] [] μ (lp_X5_day_103 x4v x5v x7v n x8v μ) kk := by
  intro n
  induction n with
  | zero => intro _ _; exact v_none
  | succ n ih =>
    intro x8v μ
    rw [lp_X5_day_103]
    refine v_iload (n := 105) dX5_day_103 4 rfl rfl ?_
    refine v_iload (n := 107) dX5_day_105 1 rfl rfl ?_
    refine v_icmp_ge (tgt := 151) (n := 110) dX5_day_107 (by decide) rfl ?_ ?_
    · exact v_leaf (v_sub [0, 1, 2, 3] rfl (hx  μ))
    · refine v_aload_n (n := 111) dX5_day_110 rfl 0 rfl rfl ?_
      refine v_getR (n := 114) (i := 4) (q2 := 46) dX5_day_111 (show isO 43 5 from rfl) rfl fg_X5_16 rfl ?_
      refine v_iload (n := 116) dX5_day_114 3 rfl rfl ?_
      refine v_iconst (n := 117) (v := 2) dX5_day_116 ci_2 rfl ?_
      refine v_iload (n := 119) dX5_day_117 4 rfl rfl ?_
      refine v_imul (n := 120) dX5_day_119 rfl ?_
      refine v_iadd (n := 121) dX5_day_120 rfl ?_
      refine v_iald (n := 122) dX5_day_121 (show isA 46 240 from rfl) rfl ?_
      refine v_aload_n (n := 123) dX5_day_122 rfl 0 rfl rfl ?_
      refine v_getR (n := 126) (i := 4) (q2 := 46) dX5_day_123 (show isO 43 5 from rfl) rfl fg_X5_16 rfl ?_
      refine v_iload (n := 128) dX5_day_126 3 rfl rfl ?_
      refine v_iconst (n := 129) (v := 2) dX5_day_128 ci_2 rfl ?_
      refine v_iload (n := 131) dX5_day_129 4 rfl rfl ?_
      refine v_imul (n := 132) dX5_day_131 rfl ?_
      refine v_iadd (n := 133) dX5_day_132 rfl ?_
      refine v_iconst (n := 134) (v := 1) dX5_day_133 ci_1 rfl ?_
      refine v_iadd (n := 135) dX5_day_134 rfl ?_
      refine v_iald (n := 136) dX5_day_135 (show isA 46 240 from rfl) rfl ?_
      refine v_cSi (n := 139) (st := []) [.int (μ 46 (x7v + ((2 : Int32) * x8v)).toNatClampNeg), .int (μ 46 ((x7v + ((2 : Int32) * x8v)) + (1 : Int32)).toNatClampNeg)] dX5_day_136 (fun t ht => M_X5_isPair G (μ 46 (x7v + ((2 : Int32) * x8v)).toNatClampNeg) (μ 46 ((x7v + ((2 : Int32) * x8v)) + (1 : Int32)).toNatClampNeg) μ t ht) cal_X5_isPair mw206 rfl rfl (Nat.le_of_ble_eq_true rfl) ⟨Nat.le_of_ble_eq_true rfl, Nat.le_of_ble_eq_true rfl⟩ rfl (fun x14 μ13 => ?_)
      refine v_if_ne (tgt := 145) (n := 142) dX5_day_139 (by decide) rfl ?_ ?_
      · refine v_bipush (n := 144) (v := -2) dX5_day_142 cb_m2 rfl ?_
        exact v_iret dX5_day_144 rfl (ho _)
      · refine v_iinc (n := 148) (w := 1) (fun x15 => [(8, .int x15), (0, .ref (G.2.1 43)), (4, .int x4v), (5, .int x5v), (7, .int x7v)]) dX5_day_145 4 rfl ci_1 (by decide) (fun _ => rfl) rfl (fun x15 => ?_)
        refine v_goto (tgt := 103) dX5_day_148 (by decide) ?_
        exact v_sub [1, 2, 3, 4, 0] rfl (ih x15 μ13)
set_option maxRecDepth 100000 in
set_option maxHeartbeats 4000000 in
theorem vjn_X5_day_57 (G : GG) (x1v : Int32) (x2v : Int32) (x3v : Int32) (x4v : Int32) (x5v : Int32) (μ : Mem) : V G J_X5_day 57 [(0, .ref (G.2.1 43)), (1, .int x1v), (2, .int x2v), (3, .int x3v), (4, .int x4v), (5, .int x5v)] [] μ (jn_X5_day_57 x1v x2v x3v x4v x5v μ) kI := by
  rw [jn_X5_day_57]
  refine v_aload_n (n := 58) dX5_day_57 rfl 0 rfl rfl ?_
  refine v_iload_n (n := 59) dX5_day_58 rfl 1 rfl rfl ?_
  refine v_iload_n (n := 60) dX5_day_59 rfl 2 rfl rfl ?_
  refine v_iload_n (n := 61) dX5_day_60 rfl 3 rfl rfl ?_
  refine v_iconst (n := 62) (v := 2) dX5_day_61 ci_2 rfl ?_
  refine v_iload (n := 64) dX5_day_62 4 rfl rfl ?_
  refine v_imul (n := 65) dX5_day_64 rfl ?_
  refine v_cVi (n := 68) (st := []) [.int x1v, .int x2v, .int x3v, .int ((2 : Int32) * x4v)] dX5_day_65 (fun t ht => M_X5_against G x1v x2v x3v ((2 : Int32) * x4v) μ t ht) cal_X5_against mw168 (show isO 43 5 from rfl) rfl rfl (Nat.le_of_ble_eq_true rfl) ⟨Nat.le_of_ble_eq_true rfl, Nat.le_of_ble_eq_true rfl⟩ rfl (fun x11 μ10 => ?_)
  refine v_istore (n := 70) [(6, .int x11), (0, .ref (G.2.1 43)), (1, .int x1v), (2, .int x2v), (3, .int x3v), (4, .int x4v), (5, .int x5v)] dX5_day_68 (by decide) rfl rfl ?_
  refine v_iload (n := 72) dX5_day_70 0 rfl rfl ?_
  refine v_if_eq (tgt := 82) (n := 75) dX5_day_72 (by decide) rfl ?_ ?_
  · refine v_aload_n (n := 83) dX5_day_82 rfl 1 rfl rfl ?_
    refine v_getI (n := 86) (i := 5) dX5_day_83 (show isO 43 5 from rfl) rfl fg_X5_80 rfl ?_
    refine v_if_ne (tgt := 92) (n := 89) dX5_day_86 (by decide) rfl ?_ ?_
    · refine v_bipush (n := 91) (v := -3) dX5_day_89 cb_m3 rfl ?_
      exact v_iret dX5_day_91 rfl rfl
    · refine v_bipush (n := 94) (v := 60) dX5_day_92 cb_60 rfl ?_
      refine v_iload_n (n := 95) dX5_day_94 rfl 2 rfl rfl ?_
      refine v_imul (n := 96) dX5_day_95 rfl ?_
      refine v_iload_n (n := 97) dX5_day_96 rfl 4 rfl rfl ?_
      refine v_iadd (n := 98) dX5_day_97 rfl ?_
      refine v_lt (fun x12 => ?_)
      refine v_istore (n := 100) [(7, .int x12), (6, .int x11), (0, .ref (G.2.1 43)), (1, .int x1v), (2, .int x2v), (3, .int x3v), (4, .int x4v), (5, .int x5v)] dX5_day_98 (by decide) rfl rfl ?_
      refine v_iconst (n := 101) (v := 0) dX5_day_100 ci_0 rfl ?_
      refine v_istore (n := 103) [(8, .int (0 : Int32)), (7, .int x12), (6, .int x11), (0, .ref (G.2.1 43)), (1, .int x1v), (2, .int x2v), (3, .int x3v), (4, .int x4v), (5, .int x5v)] dX5_day_101 (by decide) rfl rfl ?_
      refine v_sub [3, 7, 8, 1, 0] rfl ?_
      refine v_s1 (px := 151) (lx := (fun μ16 => [(0, .ref (G.2.1 43)), (4, .int x4v), (5, .int x5v), (7, .int x12)])) (mx := (fun μ16 => μ16)) (oX := oI) (fun kk hx ho => vlp_X5_day_103 G x4v x5v x12 kk hx ho FU (0 : Int32) μ10) (fun _ => rfl) (fun μ16 => ?_)
      refine v_aload_n (n := 152) dX5_day_151 rfl 0 rfl rfl ?_
      refine v_cVv (n := 155) (st := []) [] dX5_day_152 (fun t ht => M_X5_keep G μ16 t ht) cal_X5_keep mw207 (show isO 43 5 from rfl) rfl rfl (Nat.le_of_ble_eq_true rfl) ⟨Nat.le_of_ble_eq_true rfl, Nat.le_of_ble_eq_true rfl⟩ rfl (fun μ17 => ?_)
      refine v_aload_n (n := 156) dX5_day_155 rfl 0 rfl rfl ?_
      refine v_iload (n := 158) dX5_day_156 3 rfl rfl ?_
      refine v_iload (n := 160) dX5_day_158 1 rfl rfl ?_
      refine v_cVi (n := 163) (st := []) [.int x12, .int x4v] dX5_day_160 (fun t ht => M_X5_goDay G x12 x4v μ17 t ht) cal_X5_goDay mw208 (show isO 43 5 from rfl) rfl rfl (Nat.le_of_ble_eq_true rfl) ⟨Nat.le_of_ble_eq_true rfl, Nat.le_of_ble_eq_true rfl⟩ rfl (fun x19 μ18 => ?_)
      refine v_istore (n := 165) [(8, .int x19), (0, .ref (G.2.1 43)), (4, .int x4v), (5, .int x5v), (7, .int x12)] dX5_day_163 (by decide) rfl rfl ?_
      refine v_aload_n (n := 166) dX5_day_165 rfl 1 rfl rfl ?_
      refine v_iload (n := 168) dX5_day_166 3 rfl rfl ?_
      refine v_cVi (n := 171) (st := []) [.int x5v] dX5_day_168 (fun t ht => M_X5_tellDay G x5v μ18 t ht) cal_X5_tellDay mw209 (show isO 43 5 from rfl) rfl rfl (Nat.le_of_ble_eq_true rfl) ⟨Nat.le_of_ble_eq_true rfl, Nat.le_of_ble_eq_true rfl⟩ rfl (fun x21 μ20 => ?_)
      refine v_istore (n := 173) [(9, .int x21), (8, .int x19), (0, .ref (G.2.1 43)), (4, .int x4v), (5, .int x5v), (7, .int x12)] dX5_day_171 (by decide) rfl rfl ?_
      refine v_aload_n (n := 174) dX5_day_173 rfl 2 rfl rfl ?_
      refine v_cVv (n := 177) (st := []) [] dX5_day_174 (fun t ht => M_X5_putBack G μ20 t ht) cal_X5_putBack mw210 (show isO 43 5 from rfl) rfl rfl (Nat.le_of_ble_eq_true rfl) ⟨Nat.le_of_ble_eq_true rfl, Nat.le_of_ble_eq_true rfl⟩ rfl (fun μ22 => ?_)
      refine v_iload (n := 179) dX5_day_177 4 rfl rfl ?_
      refine v_iconst (n := 180) (v := 1) dX5_day_179 ci_1 rfl ?_
      refine v_icmp_ne (tgt := 188) (n := 183) dX5_day_180 (by decide) rfl ?_ ?_
      · refine v_iload (n := 185) dX5_day_183 1 rfl rfl ?_
        refine v_goto (tgt := 205) dX5_day_185 (by decide) ?_
        exact v_iret dX5_day_205 rfl rfl
      · refine v_iload (n := 190) dX5_day_188 1 rfl rfl ?_
        refine v_bipush (n := 192) (v := -9) dX5_day_190 cb_m9 rfl ?_
        refine v_icmp_ne (tgt := 200) (n := 195) dX5_day_192 (by decide) rfl ?_ ?_
        · refine v_iload (n := 197) dX5_day_195 0 rfl rfl ?_
          refine v_goto (tgt := 205) dX5_day_197 (by decide) ?_
          exact v_iret dX5_day_205 rfl rfl
        · refine v_bipush (n := 202) (v := -100) dX5_day_200 cb_m100 rfl ?_
          refine v_iload (n := 204) dX5_day_202 1 rfl rfl ?_
          refine v_isub (n := 205) dX5_day_204 rfl ?_
          exact v_iret dX5_day_205 rfl rfl
  · refine v_aload_n (n := 76) dX5_day_75 rfl 1 rfl rfl ?_
    refine v_iload (n := 78) dX5_day_76 0 rfl rfl ?_
    refine v_cVi (n := 81) (st := []) [.int x11] dX5_day_78 (fun t ht => M_X5_fails G x11 μ10 t ht) cal_X5_fails mw179 (show isO 43 5 from rfl) rfl rfl (Nat.le_of_ble_eq_true rfl) ⟨Nat.le_of_ble_eq_true rfl, Nat.le_of_ble_eq_true rfl⟩ rfl (fun x24 μ23 => ?_)
    exact v_iret dX5_day_81 rfl rfl
set_option maxRecDepth 100000 in
set_option maxHeartbeats 4000000 in
theorem v_X5_day (G : GG) (a1 : Int32) (a2 : Int32) (a3 : Int32) (a4 : Int32) (a5 : Int32) (μ : Mem) : V G J_X5_day 0 [(0, .ref (G.2.1 43)), (1, .int a1), (2, .int a2), (3, .int a3), (4, .int a4), (5, .int a5)] [] μ (f_X5_day a1 a2 a3 a4 a5 μ) kI := by
  rw [f_X5_day]
  refine v_aload_n (n := 1) dX5_day_0 rfl 0 rfl rfl ?_
  refine v_iconst (n := 2) (v := 0) dX5_day_1 ci_0 rfl ?_
  refine v_put (n := 5) (i := 0) dX5_day_2 (show isO 43 5 from rfl) rfl fp_X5_70 rfl rfl rfl ?_
  refine v_lm (fun μ1 => ?_)
  refine v_iload_n (n := 6) dX5_day_5 rfl 1 rfl rfl ?_
  refine v_cSi (n := 9) (st := []) [.int a1] dX5_day_6 (fun t ht => M_X5_isSheet G a1 μ1 t ht) cal_X5_isSheet mw166 rfl rfl (Nat.le_of_ble_eq_true rfl) ⟨Nat.le_of_ble_eq_true rfl, Nat.le_of_ble_eq_true rfl⟩ rfl (fun x3 μ2 => ?_)
  refine v_if_ne (tgt := 14) (n := 12) dX5_day_9 (by decide) rfl ?_ ?_
  · refine v_iconst (n := 13) (v := -1) dX5_day_12 ci_m1 rfl ?_
    exact v_iret dX5_day_13 rfl rfl
  · refine v_iload_n (n := 15) dX5_day_14 rfl 2 rfl rfl ?_
    refine v_cSi (n := 18) (st := []) [.int a2] dX5_day_15 (fun t ht => M_X5_isSort G a2 μ2 t ht) cal_X5_isSort mw167 rfl rfl (Nat.le_of_ble_eq_true rfl) ⟨Nat.le_of_ble_eq_true rfl, Nat.le_of_ble_eq_true rfl⟩ rfl (fun x5 μ4 => ?_)
    refine v_if_eq (tgt := 54) (n := 21) dX5_day_18 (by decide) rfl ?_ ?_
    · refine v_bipush (n := 56) (v := -2) dX5_day_54 cb_m2 rfl ?_
      exact v_iret dX5_day_56 rfl rfl
    · refine v_iload (n := 23) dX5_day_21 4 rfl rfl ?_
      refine v_iconst (n := 24) (v := 0) dX5_day_23 ci_0 rfl ?_
      refine v_bipush (n := 26) (v := 20) dX5_day_24 cb_20 rfl ?_
      refine v_cSi (n := 29) (st := []) [.int a4, .int (0 : Int32), .int (20 : Int32)] dX5_day_26 (fun t ht => M_X5_within G a4 (0 : Int32) (20 : Int32) μ4 t ht) cal_X5_within mw151 rfl rfl (Nat.le_of_ble_eq_true rfl) ⟨Nat.le_of_ble_eq_true rfl, Nat.le_of_ble_eq_true rfl⟩ rfl (fun x7 μ6 => ?_)
      refine v_if_eq (tgt := 54) (n := 32) dX5_day_29 (by decide) rfl ?_ ?_
      · refine v_bipush (n := 56) (v := -2) dX5_day_54 cb_m2 rfl ?_
        exact v_iret dX5_day_56 rfl rfl
      · refine v_iload (n := 34) dX5_day_32 5 rfl rfl ?_
        refine v_iconst (n := 35) (v := 0) dX5_day_34 ci_0 rfl ?_
        refine v_iconst (n := 36) (v := 4) dX5_day_35 ci_4 rfl ?_
        refine v_cSi (n := 39) (st := []) [.int a5, .int (0 : Int32), .int (4 : Int32)] dX5_day_36 (fun t ht => M_X5_within G a5 (0 : Int32) (4 : Int32) μ6 t ht) cal_X5_within mw151 rfl rfl (Nat.le_of_ble_eq_true rfl) ⟨Nat.le_of_ble_eq_true rfl, Nat.le_of_ble_eq_true rfl⟩ rfl (fun x9 μ8 => ?_)
        refine v_if_ne (tgt := 57) (n := 42) dX5_day_39 (by decide) rfl ?_ ?_
        · refine v_iload (n := 44) dX5_day_42 5 rfl rfl ?_
          refine v_bipush (n := 46) (v := 10) dX5_day_44 cb_10 rfl ?_
          refine v_bipush (n := 48) (v := 16) dX5_day_46 cb_16 rfl ?_
          refine v_cSi (n := 51) (st := []) [.int a5, .int (10 : Int32), .int (16 : Int32)] dX5_day_48 (fun t ht => M_X5_within G a5 (10 : Int32) (16 : Int32) μ8 t ht) cal_X5_within mw151 rfl rfl (Nat.le_of_ble_eq_true rfl) ⟨Nat.le_of_ble_eq_true rfl, Nat.le_of_ble_eq_true rfl⟩ rfl (fun x26 μ25 => ?_)
          refine v_if_ne (tgt := 57) (n := 54) dX5_day_51 (by decide) rfl ?_ ?_
          · refine v_bipush (n := 56) (v := -2) dX5_day_54 cb_m2 rfl ?_
            exact v_iret dX5_day_56 rfl rfl
          · exact vjn_X5_day_57 G a1 a2 a3 a4 a5 μ25
        · exact vjn_X5_day_57 G a1 a2 a3 a4 a5 μ8
theorem M_X5_day (G : GG) (a1 : Int32) (a2 : Int32) (a3 : Int32) (a4 : Int32) (a5 : Int32) (μ : Mem) (t : Int32 × Mem) (ht : f_X5_day a1 a2 a3 a4 a5 μ = some t) : GM G J_X5_day yX5_day [.ref (G.2.1 43), .int a1, .int a2, .int a3, .int a4, .int a5] μ (oI t) :=
  gm_of (J := J_X5_day) (k := kI) rfl (by decide) (Nat.le_of_ble_eq_true rfl) (v_X5_day G a1 a2 a3 a4 a5 μ) ht rfl
set_option maxRecDepth 100000 in
set_option maxHeartbeats 4000000 in
theorem v_X5_by (G : GG) (a1 : Int32) (μ : Mem) : V G J_X5_by 0 [(0, .ref (G.2.1 43)), (1, .int a1)] [] μ (f_X5_by a1 μ) kI := by
  rw [f_X5_by]
  refine v_iload_n (n := 1) dX5_by_0 rfl 1 rfl rfl ?_
  refine v_iconst (n := 2) (v := 0) dX5_by_1 ci_0 rfl ?_
  refine v_bipush (n := 4) (v := 7) dX5_by_2 cb_7 rfl ?_
  refine v_cSi (n := 7) (st := []) [.int a1, .int (0 : Int32), .int (7 : Int32)] dX5_by_4 (fun t ht => M_X5_within G a1 (0 : Int32) (7 : Int32) μ t ht) cal_X5_within mw151 rfl rfl (Nat.le_of_ble_eq_true rfl) ⟨Nat.le_of_ble_eq_true rfl, Nat.le_of_ble_eq_true rfl⟩ rfl (fun x2 μ1 => ?_)
  refine v_if_ne (tgt := 13) (n := 10) dX5_by_7 (by decide) rfl ?_ ?_
  · refine v_bipush (n := 12) (v := -2) dX5_by_10 cb_m2 rfl ?_
    exact v_iret dX5_by_12 rfl rfl
  · refine v_aload_n (n := 14) dX5_by_13 rfl 0 rfl rfl ?_
    refine v_getI (n := 17) (i := 5) dX5_by_14 (show isO 43 5 from rfl) rfl fg_X5_80 rfl ?_
    refine v_if_ne (tgt := 25) (n := 20) dX5_by_17 (by decide) rfl ?_ ?_
    · refine v_bipush (n := 22) (v := -3) dX5_by_20 cb_m3 rfl ?_
      refine v_goto (tgt := 30) dX5_by_22 (by decide) ?_
      exact v_iret dX5_by_30 rfl rfl
    · refine v_aload_n (n := 26) dX5_by_25 rfl 0 rfl rfl ?_
      refine v_iload_n (n := 27) dX5_by_26 rfl 1 rfl rfl ?_
      refine v_cVi (n := 30) (st := []) [.int a1] dX5_by_27 (fun t ht => M_X5_findAll G a1 μ1 t ht) cal_X5_findAll mw192 (show isO 43 5 from rfl) rfl rfl (Nat.le_of_ble_eq_true rfl) ⟨Nat.le_of_ble_eq_true rfl, Nat.le_of_ble_eq_true rfl⟩ rfl (fun x4 μ3 => ?_)
      exact v_iret dX5_by_30 rfl rfl
theorem M_X5_by (G : GG) (a1 : Int32) (μ : Mem) (t : Int32 × Mem) (ht : f_X5_by a1 μ = some t) : GM G J_X5_by yX5_by [.ref (G.2.1 43), .int a1] μ (oI t) :=
  gm_of (J := J_X5_by) (k := kI) rfl (by decide) (Nat.le_of_ble_eq_true rfl) (v_X5_by G a1 μ) ht rfl
set_option maxRecDepth 100000 in
set_option maxHeartbeats 4000000 in
theorem vlp_X5_enough_19 (G : GG) (x1v : Int32) (kk : (Int32 × Mem) → Option Oc) (hx : ∀ (x2v : Int32) (μ : Mem), V G J_X5_enough 34 [(2, .int x2v)] [] μ (kk (x2v, μ)) some) : ∀ (n : Nat) (x2v : Int32) (μ : Mem), V G J_X5_enough 19 [(0, .ref (G.2.1 43)), (1, .int x1v), (2, .int x2v)] [] μ (lp_X5_enough_19 x1v n x2v μ) kk := by
  intro n
  induction n with
  | zero => intro _ _; exact v_none
  | succ n ih =>
    intro x2v μ
    rw [lp_X5_enough_19]
    refine v_aload_n (n := 20) dX5_enough_19 rfl 0 rfl rfl ?_
    refine v_iload_n (n := 21) dX5_enough_20 rfl 2 rfl rfl ?_
    refine v_cVi (n := 24) (st := []) [.int x2v] dX5_enough_21 (fun t ht => M_X5_findAll G x2v μ t ht) cal_X5_findAll mw192 (show isO 43 5 from rfl) rfl rfl (Nat.le_of_ble_eq_true rfl) ⟨Nat.le_of_ble_eq_true rfl, Nat.le_of_ble_eq_true rfl⟩ rfl (fun x4 μ3 => ?_)
    refine v_iload_n (n := 25) dX5_enough_24 rfl 1 rfl rfl ?_
    refine v_icmp_eq (tgt := 34) (n := 28) dX5_enough_25 (by decide) rfl ?_ ?_
    · exact v_leaf (v_sub [2] rfl (hx x2v μ3))
    · refine v_iinc (n := 31) (w := 1) (fun x5 => [(2, .int x5), (0, .ref (G.2.1 43)), (1, .int x1v)]) dX5_enough_28 2 rfl ci_1 (by decide) (fun _ => rfl) rfl (fun x5 => ?_)
      refine v_goto (tgt := 19) dX5_enough_31 (by decide) ?_
      exact v_sub [1, 2, 0] rfl (ih x5 μ3)
set_option maxRecDepth 100000 in
set_option maxHeartbeats 4000000 in
theorem v_X5_enough (G : GG) (μ : Mem) : V G J_X5_enough 0 [(0, .ref (G.2.1 43))] [] μ (f_X5_enough μ) kI := by
  rw [f_X5_enough]
  refine v_aload_n (n := 1) dX5_enough_0 rfl 0 rfl rfl ?_
  refine v_getI (n := 4) (i := 5) dX5_enough_1 (show isO 43 5 from rfl) rfl fg_X5_80 rfl ?_
  refine v_if_ne (tgt := 10) (n := 7) dX5_enough_4 (by decide) rfl ?_ ?_
  · refine v_bipush (n := 9) (v := -3) dX5_enough_7 cb_m3 rfl ?_
    exact v_iret dX5_enough_9 rfl rfl
  · refine v_aload_n (n := 11) dX5_enough_10 rfl 0 rfl rfl ?_
    refine v_bipush (n := 13) (v := 7) dX5_enough_11 cb_7 rfl ?_
    refine v_cVi (n := 16) (st := []) [.int (7 : Int32)] dX5_enough_13 (fun t ht => M_X5_findAll G (7 : Int32) μ t ht) cal_X5_findAll mw192 (show isO 43 5 from rfl) rfl rfl (Nat.le_of_ble_eq_true rfl) ⟨Nat.le_of_ble_eq_true rfl, Nat.le_of_ble_eq_true rfl⟩ rfl (fun x2 μ1 => ?_)
    refine v_istore_n (n := 17) [(1, .int x2), (0, .ref (G.2.1 43))] dX5_enough_16 rfl (by decide) rfl rfl ?_
    refine v_iconst (n := 18) (v := 0) dX5_enough_17 ci_0 rfl ?_
    refine v_istore_n (n := 19) [(2, .int (0 : Int32)), (1, .int x2), (0, .ref (G.2.1 43))] dX5_enough_18 rfl (by decide) rfl rfl ?_
    refine v_sub [2, 1, 0] rfl ?_
    refine v_x2 (px := 34) (lx := (fun x6 μ7 => [(2, .int x6)])) (mx := (fun x6 μ7 => μ7)) (fun kk hx => vlp_X5_enough_19 G x2 kk hx FU (0 : Int32) μ1) (fun x6 μ7 => ?_)
    refine v_iload_n (n := 35) dX5_enough_34 rfl 0 rfl rfl ?_
    exact v_iret dX5_enough_35 rfl rfl
theorem M_X5_enough (G : GG) (μ : Mem) (t : Int32 × Mem) (ht : f_X5_enough μ = some t) : GM G J_X5_enough yX5_enough [.ref (G.2.1 43)] μ (oI t) :=
  gm_of (J := J_X5_enough) (k := kI) rfl (by decide) (Nat.le_of_ble_eq_true rfl) (v_X5_enough G μ) ht rfl
set_option maxRecDepth 100000 in
set_option maxHeartbeats 4000000 in
theorem vjn_X5_reading_40 (G : GG) (x1v : Int32) (x2v : Int32) (μ : Mem) : V G J_X5_reading 40 [(0, .ref (G.2.1 43)), (1, .int x1v), (2, .int x2v)] [] μ (jn_X5_reading_40 x1v x2v μ) kI := by
  rw [jn_X5_reading_40]
  refine v_aload_n (n := 41) dX5_reading_40 rfl 0 rfl rfl ?_
  refine v_getI (n := 44) (i := 29) dX5_reading_41 (show isO 43 5 from rfl) rfl fg_X5_122 rfl ?_
  refine v_bipush (n := 46) (v := 8) dX5_reading_44 cb_8 rfl ?_
  refine v_icmp_ne (tgt := 52) (n := 49) dX5_reading_46 (by decide) rfl ?_ ?_
  · refine v_bipush (n := 51) (v := -4) dX5_reading_49 cb_m4 rfl ?_
    exact v_iret dX5_reading_51 rfl rfl
  · refine v_aload_n (n := 53) dX5_reading_52 rfl 0 rfl rfl ?_
    refine v_getR (n := 56) (i := 30) (q2 := 62) dX5_reading_53 (show isO 43 5 from rfl) rfl fg_X5_64 rfl ?_
    refine v_aload_n (n := 57) dX5_reading_56 rfl 0 rfl rfl ?_
    refine v_getI (n := 60) (i := 29) dX5_reading_57 (show isO 43 5 from rfl) rfl fg_X5_122 rfl ?_
    refine v_iload_n (n := 61) dX5_reading_60 rfl 1 rfl rfl ?_
    refine v_iast (n := 62) dX5_reading_61 (show isA 62 8 from rfl) rfl ?_
    refine v_lm (fun μ3 => ?_)
    refine v_aload_n (n := 63) dX5_reading_62 rfl 0 rfl rfl ?_
    refine v_getR (n := 66) (i := 31) (q2 := 63) dX5_reading_63 (show isO 43 5 from rfl) rfl fg_X5_67 rfl ?_
    refine v_aload_n (n := 67) dX5_reading_66 rfl 0 rfl rfl ?_
    refine v_getI (n := 70) (i := 29) dX5_reading_67 (show isO 43 5 from rfl) rfl fg_X5_122 rfl ?_
    refine v_iload_n (n := 71) dX5_reading_70 rfl 2 rfl rfl ?_
    refine v_iast (n := 72) dX5_reading_71 (show isA 63 8 from rfl) rfl ?_
    refine v_lm (fun μ4 => ?_)
    refine v_aload_n (n := 73) dX5_reading_72 rfl 0 rfl rfl ?_
    refine v_dup (n := 74) dX5_reading_73 rfl rfl ?_
    refine v_getI (n := 77) (i := 29) dX5_reading_74 (show isO 43 5 from rfl) rfl fg_X5_122 rfl ?_
    refine v_iconst (n := 78) (v := 1) dX5_reading_77 ci_1 rfl ?_
    refine v_iadd (n := 79) dX5_reading_78 rfl ?_
    refine v_put (n := 82) (i := 29) dX5_reading_79 (show isO 43 5 from rfl) rfl fp_X5_122 rfl rfl rfl ?_
    refine v_lm (fun μ5 => ?_)
    refine v_aload_n (n := 83) dX5_reading_82 rfl 0 rfl rfl ?_
    refine v_getI (n := 86) (i := 29) dX5_reading_83 (show isO 43 5 from rfl) rfl fg_X5_122 rfl ?_
    refine v_iconst (n := 87) (v := 1) dX5_reading_86 ci_1 rfl ?_
    refine v_isub (n := 88) dX5_reading_87 rfl ?_
    exact v_iret dX5_reading_88 rfl rfl
set_option maxRecDepth 100000 in
set_option maxHeartbeats 4000000 in
theorem v_X5_reading (G : GG) (a1 : Int32) (a2 : Int32) (μ : Mem) : V G J_X5_reading 0 [(0, .ref (G.2.1 43)), (1, .int a1), (2, .int a2)] [] μ (f_X5_reading a1 a2 μ) kI := by
  rw [f_X5_reading]
  refine v_aload_n (n := 1) dX5_reading_0 rfl 0 rfl rfl ?_
  refine v_getI (n := 4) (i := 5) dX5_reading_1 (show isO 43 5 from rfl) rfl fg_X5_80 rfl ?_
  refine v_if_ne (tgt := 10) (n := 7) dX5_reading_4 (by decide) rfl ?_ ?_
  · refine v_bipush (n := 9) (v := -3) dX5_reading_7 cb_m3 rfl ?_
    exact v_iret dX5_reading_9 rfl rfl
  · refine v_iload_n (n := 11) dX5_reading_10 rfl 1 rfl rfl ?_
    refine v_iconst (n := 12) (v := 0) dX5_reading_11 ci_0 rfl ?_
    refine v_bipush (n := 14) (v := 7) dX5_reading_12 cb_7 rfl ?_
    refine v_cSi (n := 17) (st := []) [.int a1, .int (0 : Int32), .int (7 : Int32)] dX5_reading_14 (fun t ht => M_X5_within G a1 (0 : Int32) (7 : Int32) μ t ht) cal_X5_within mw151 rfl rfl (Nat.le_of_ble_eq_true rfl) ⟨Nat.le_of_ble_eq_true rfl, Nat.le_of_ble_eq_true rfl⟩ rfl (fun x2 μ1 => ?_)
    refine v_if_eq (tgt := 37) (n := 20) dX5_reading_17 (by decide) rfl ?_ ?_
    · refine v_bipush (n := 39) (v := -2) dX5_reading_37 cb_m2 rfl ?_
      exact v_iret dX5_reading_39 rfl rfl
    · refine v_iload_n (n := 21) dX5_reading_20 rfl 2 rfl rfl ?_
      refine v_bipush (n := 23) (v := -9) dX5_reading_21 cb_m9 rfl ?_
      refine v_icmp_eq (tgt := 40) (n := 26) dX5_reading_23 (by decide) rfl ?_ ?_
      · exact vjn_X5_reading_40 G a1 a2 μ1
      · refine v_iload_n (n := 27) dX5_reading_26 rfl 2 rfl rfl ?_
        refine v_iconst (n := 28) (v := 0) dX5_reading_27 ci_0 rfl ?_
        refine v_sipush (n := 31) (v := 500) dX5_reading_28 cs_500 rfl ?_
        refine v_cSi (n := 34) (st := []) [.int a2, .int (0 : Int32), .int (500 : Int32)] dX5_reading_31 (fun t ht => M_X5_within G a2 (0 : Int32) (500 : Int32) μ1 t ht) cal_X5_within mw151 rfl rfl (Nat.le_of_ble_eq_true rfl) ⟨Nat.le_of_ble_eq_true rfl, Nat.le_of_ble_eq_true rfl⟩ rfl (fun x7 μ6 => ?_)
        refine v_if_ne (tgt := 40) (n := 37) dX5_reading_34 (by decide) rfl ?_ ?_
        · refine v_bipush (n := 39) (v := -2) dX5_reading_37 cb_m2 rfl ?_
          exact v_iret dX5_reading_39 rfl rfl
        · exact vjn_X5_reading_40 G a1 a2 μ6
theorem M_X5_reading (G : GG) (a1 : Int32) (a2 : Int32) (μ : Mem) (t : Int32 × Mem) (ht : f_X5_reading a1 a2 μ = some t) : GM G J_X5_reading yX5_reading [.ref (G.2.1 43), .int a1, .int a2] μ (oI t) :=
  gm_of (J := J_X5_reading) (k := kI) rfl (by decide) (Nat.le_of_ble_eq_true rfl) (v_X5_reading G a1 a2 μ) ht rfl
set_option maxRecDepth 100000 in
set_option maxHeartbeats 4000000 in
theorem v_X5_back (G : GG) (a1 : Int32) (μ : Mem) : V G J_X5_back 0 [(0, .ref (G.2.1 43)), (1, .int a1)] [] μ (f_X5_back a1 μ) kI := by
  rw [f_X5_back]
  refine v_iload_n (n := 1) dX5_back_0 rfl 1 rfl rfl ?_
  refine v_iconst (n := 2) (v := 0) dX5_back_1 ci_0 rfl ?_
  refine v_aload_n (n := 3) dX5_back_2 rfl 0 rfl rfl ?_
  refine v_getI (n := 6) (i := 29) dX5_back_3 (show isO 43 5 from rfl) rfl fg_X5_122 rfl ?_
  refine v_cSi (n := 9) (st := []) [.int a1, .int (0 : Int32), .int (μ 43 29)] dX5_back_6 (fun t ht => M_X5_within G a1 (0 : Int32) (μ 43 29) μ t ht) cal_X5_within mw151 rfl rfl (Nat.le_of_ble_eq_true rfl) ⟨Nat.le_of_ble_eq_true rfl, Nat.le_of_ble_eq_true rfl⟩ rfl (fun x2 μ1 => ?_)
  refine v_if_ne (tgt := 15) (n := 12) dX5_back_9 (by decide) rfl ?_ ?_
  · refine v_bipush (n := 14) (v := -2) dX5_back_12 cb_m2 rfl ?_
    exact v_iret dX5_back_14 rfl rfl
  · refine v_aload_n (n := 16) dX5_back_15 rfl 0 rfl rfl ?_
    refine v_dup (n := 17) dX5_back_16 rfl rfl ?_
    refine v_getI (n := 20) (i := 29) dX5_back_17 (show isO 43 5 from rfl) rfl fg_X5_122 rfl ?_
    refine v_iload_n (n := 21) dX5_back_20 rfl 1 rfl rfl ?_
    refine v_isub (n := 22) dX5_back_21 rfl ?_
    refine v_put (n := 25) (i := 29) dX5_back_22 (show isO 43 5 from rfl) rfl fp_X5_122 rfl rfl rfl ?_
    refine v_lm (fun μ3 => ?_)
    refine v_aload_n (n := 26) dX5_back_25 rfl 0 rfl rfl ?_
    refine v_getI (n := 29) (i := 29) dX5_back_26 (show isO 43 5 from rfl) rfl fg_X5_122 rfl ?_
    exact v_iret dX5_back_29 rfl rfl
theorem M_X5_back (G : GG) (a1 : Int32) (μ : Mem) (t : Int32 × Mem) (ht : f_X5_back a1 μ = some t) : GM G J_X5_back yX5_back [.ref (G.2.1 43), .int a1] μ (oI t) :=
  gm_of (J := J_X5_back) (k := kI) rfl (by decide) (Nat.le_of_ble_eq_true rfl) (v_X5_back G a1 μ) ht rfl
set_option maxRecDepth 100000 in
set_option maxHeartbeats 4000000 in
theorem vlp_X5_areSo_2 (G : GG) (kk : ((Mem) ⊕ (Int32 × Mem)) → Option Oc) (hx : ∀ (μ : Mem), V G J_X5_areSo 37 [] [] μ (kk (.inl μ)) some) (ho : ∀ t, kk (.inr t) = some (oI t)) : ∀ (n : Nat) (x1v : Int32) (μ : Mem), V G J_X5_areSo 2 [(0, .ref (G.2.1 43)), (1, .int x1v)] [] μ (lp_X5_areSo_2 n x1v μ) kk := by
  intro n
  induction n with
  | zero => intro _ _; exact v_none
  | succ n ih =>
    intro x1v μ
    rw [lp_X5_areSo_2]
    refine v_iload_n (n := 3) dX5_areSo_2 rfl 1 rfl rfl ?_
    refine v_aload_n (n := 4) dX5_areSo_3 rfl 0 rfl rfl ?_
    refine v_getI (n := 7) (i := 29) dX5_areSo_4 (show isO 43 5 from rfl) rfl fg_X5_122 rfl ?_
    refine v_icmp_ge (tgt := 37) (n := 10) dX5_areSo_7 (by decide) rfl ?_ ?_
    · exact v_leaf (v_sub [] rfl (hx  μ))
    · refine v_aload_n (n := 11) dX5_areSo_10 rfl 0 rfl rfl ?_
      refine v_aload_n (n := 12) dX5_areSo_11 rfl 0 rfl rfl ?_
      refine v_getR (n := 15) (i := 30) (q2 := 62) dX5_areSo_12 (show isO 43 5 from rfl) rfl fg_X5_64 rfl ?_
      refine v_iload_n (n := 16) dX5_areSo_15 rfl 1 rfl rfl ?_
      refine v_iald (n := 17) dX5_areSo_16 (show isA 62 8 from rfl) rfl ?_
      refine v_cVi (n := 20) (st := []) [.int (μ 62 x1v.toNatClampNeg)] dX5_areSo_17 (fun t ht => M_X5_findAll G (μ 62 x1v.toNatClampNeg) μ t ht) cal_X5_findAll mw192 (show isO 43 5 from rfl) rfl rfl (Nat.le_of_ble_eq_true rfl) ⟨Nat.le_of_ble_eq_true rfl, Nat.le_of_ble_eq_true rfl⟩ rfl (fun x2 μ1 => ?_)
      refine v_aload_n (n := 21) dX5_areSo_20 rfl 0 rfl rfl ?_
      refine v_getR (n := 24) (i := 31) (q2 := 63) dX5_areSo_21 (show isO 43 5 from rfl) rfl fg_X5_67 rfl ?_
      refine v_iload_n (n := 25) dX5_areSo_24 rfl 1 rfl rfl ?_
      refine v_iald (n := 26) dX5_areSo_25 (show isA 63 8 from rfl) rfl ?_
      refine v_icmp_eq (tgt := 31) (n := 29) dX5_areSo_26 (by decide) rfl ?_ ?_
      · refine v_iinc (n := 34) (w := 1) (fun x3 => [(1, .int x3), (0, .ref (G.2.1 43))]) dX5_areSo_31 1 rfl ci_1 (by decide) (fun _ => rfl) rfl (fun x3 => ?_)
        refine v_goto (tgt := 2) dX5_areSo_34 (by decide) ?_
        exact v_sub [1, 0] rfl (ih x3 μ1)
      · refine v_iconst (n := 30) (v := 0) dX5_areSo_29 ci_0 rfl ?_
        exact v_zret dX5_areSo_30 rfl (by decide) (ho _)
set_option maxRecDepth 100000 in
set_option maxHeartbeats 4000000 in
theorem v_X5_areSo (G : GG) (μ : Mem) : V G J_X5_areSo 0 [(0, .ref (G.2.1 43))] [] μ (f_X5_areSo μ) kI := by
  rw [f_X5_areSo]
  refine v_iconst (n := 1) (v := 0) dX5_areSo_0 ci_0 rfl ?_
  refine v_istore_n (n := 2) [(1, .int (0 : Int32)), (0, .ref (G.2.1 43))] dX5_areSo_1 rfl (by decide) rfl rfl ?_
  refine v_sub [1, 0] rfl ?_
  refine v_s1 (px := 37) (lx := (fun μ4 => [])) (mx := (fun μ4 => μ4)) (oX := oI) (fun kk hx ho => vlp_X5_areSo_2 G  kk hx ho FU (0 : Int32) μ) (fun _ => rfl) (fun μ4 => ?_)
  refine v_iconst (n := 38) (v := 1) dX5_areSo_37 ci_1 rfl ?_
  exact v_zret dX5_areSo_38 rfl (by decide) rfl
theorem M_X5_areSo (G : GG) (μ : Mem) (t : Int32 × Mem) (ht : f_X5_areSo μ = some t) : GM G J_X5_areSo yX5_areSo [.ref (G.2.1 43)] μ (oI t) :=
  gm_of (J := J_X5_areSo) (k := kI) rfl (by decide) (Nat.le_of_ble_eq_true rfl) (v_X5_areSo G μ) ht rfl
set_option maxRecDepth 100000 in
set_option maxHeartbeats 4000000 in
theorem vlp_X5_kinds_22 (G : GG) (x1v : Int32) (x2v : Int32) (kk : (Int32 × Mem) → Option Oc) (hx : ∀ (x3v : Int32) (μ : Mem), V G J_X5_kinds 60 [(0, .ref (G.2.1 43)), (1, .int x1v), (2, .int x2v), (3, .int x3v)] [] μ (kk (x3v, μ)) some) : ∀ (n : Nat) (x3v : Int32) (x4v : Int32) (μ : Mem), V G J_X5_kinds 22 [(0, .ref (G.2.1 43)), (1, .int x1v), (2, .int x2v), (3, .int x3v), (4, .int x4v)] [] μ (lp_X5_kinds_22 x1v x2v n x3v x4v μ) kk := by
  intro n
  induction n with
  | zero => intro _ _ _; exact v_none
  | succ n ih =>
    intro x3v x4v μ
    rw [lp_X5_kinds_22]
    refine v_iload (n := 24) dX5_kinds_22 4 rfl rfl ?_
    refine v_iconst (n := 25) (v := 3) dX5_kinds_24 ci_3 rfl ?_
    refine v_icmp_ge (tgt := 60) (n := 28) dX5_kinds_25 (by decide) rfl ?_ ?_
    · exact v_leaf (v_sub [0, 1, 2, 3] rfl (hx x3v μ))
    · refine v_aload_n (n := 29) dX5_kinds_28 rfl 0 rfl rfl ?_
      refine v_getR (n := 32) (i := 10) (q2 := 47) dX5_kinds_29 (show isO 43 5 from rfl) rfl fg_X5_19 rfl ?_
      refine v_iload_n (n := 33) dX5_kinds_32 rfl 1 rfl rfl ?_
      refine v_iload (n := 35) dX5_kinds_33 4 rfl rfl ?_
      refine v_iast (n := 36) dX5_kinds_35 (show isA 47 7 from rfl) rfl ?_
      refine v_lm (fun μ4 => ?_)
      refine v_iload_n (n := 37) dX5_kinds_36 rfl 3 rfl rfl ?_
      refine v_aload_n (n := 38) dX5_kinds_37 rfl 0 rfl rfl ?_
      refine v_cVi (n := 41) (st := [.int x3v]) [] dX5_kinds_38 (fun t ht => M_X5_areSo G μ4 t ht) cal_X5_areSo mw213 (show isO 43 5 from rfl) rfl rfl (Nat.le_of_ble_eq_true rfl) ⟨Nat.le_of_ble_eq_true rfl, Nat.le_of_ble_eq_true rfl⟩ rfl (fun x6 μ5 => ?_)
      refine v_if_eq (tgt := 51) (n := 44) dX5_kinds_41 (by decide) rfl ?_ ?_
      · refine v_iconst (n := 52) (v := 0) dX5_kinds_51 ci_0 rfl ?_
        refine v_ior (n := 53) dX5_kinds_52 rfl ?_
        refine v_lt (fun x7 => ?_)
        refine v_istore_n (n := 54) [(3, .int x7), (0, .ref (G.2.1 43)), (1, .int x1v), (2, .int x2v), (4, .int x4v)] dX5_kinds_53 rfl (by decide) rfl rfl ?_
        refine v_iinc (n := 57) (w := 1) (fun x8 => [(4, .int x8), (3, .int x7), (0, .ref (G.2.1 43)), (1, .int x1v), (2, .int x2v)]) dX5_kinds_54 4 rfl ci_1 (by decide) (fun _ => rfl) rfl (fun x8 => ?_)
        refine v_goto (tgt := 22) dX5_kinds_57 (by decide) ?_
        exact v_sub [2, 3, 4, 1, 0] rfl (ih x7 x8 μ5)
      · refine v_iconst (n := 45) (v := 1) dX5_kinds_44 ci_1 rfl ?_
        refine v_iload (n := 47) dX5_kinds_45 4 rfl rfl ?_
        refine v_ishl (n := 48) dX5_kinds_47 rfl ?_
        refine v_goto (tgt := 52) dX5_kinds_48 (by decide) ?_
        refine v_ior (n := 53) dX5_kinds_52 rfl ?_
        refine v_lt (fun x9 => ?_)
        refine v_istore_n (n := 54) [(3, .int x9), (0, .ref (G.2.1 43)), (1, .int x1v), (2, .int x2v), (4, .int x4v)] dX5_kinds_53 rfl (by decide) rfl rfl ?_
        refine v_iinc (n := 57) (w := 1) (fun x10 => [(4, .int x10), (3, .int x9), (0, .ref (G.2.1 43)), (1, .int x1v), (2, .int x2v)]) dX5_kinds_54 4 rfl ci_1 (by decide) (fun _ => rfl) rfl (fun x10 => ?_)
        refine v_goto (tgt := 22) dX5_kinds_57 (by decide) ?_
        exact v_sub [2, 3, 4, 1, 0] rfl (ih x9 x10 μ5)
set_option maxRecDepth 100000 in
set_option maxHeartbeats 4000000 in
theorem v_X5_kinds (G : GG) (a1 : Int32) (μ : Mem) : V G J_X5_kinds 0 [(0, .ref (G.2.1 43)), (1, .int a1)] [] μ (f_X5_kinds a1 μ) kI := by
  rw [f_X5_kinds]
  refine v_aload_n (n := 1) dX5_kinds_0 rfl 0 rfl rfl ?_
  refine v_iload_n (n := 2) dX5_kinds_1 rfl 1 rfl rfl ?_
  refine v_cVi (n := 5) (st := []) [.int a1] dX5_kinds_2 (fun t ht => M_X5_isLeft G a1 μ t ht) cal_X5_isLeft mw198 (show isO 43 5 from rfl) rfl rfl (Nat.le_of_ble_eq_true rfl) ⟨Nat.le_of_ble_eq_true rfl, Nat.le_of_ble_eq_true rfl⟩ rfl (fun x2 μ1 => ?_)
  refine v_if_ne (tgt := 10) (n := 8) dX5_kinds_5 (by decide) rfl ?_ ?_
  · refine v_iconst (n := 9) (v := -1) dX5_kinds_8 ci_m1 rfl ?_
    exact v_iret dX5_kinds_9 rfl rfl
  · refine v_aload_n (n := 11) dX5_kinds_10 rfl 0 rfl rfl ?_
    refine v_getR (n := 14) (i := 10) (q2 := 47) dX5_kinds_11 (show isO 43 5 from rfl) rfl fg_X5_19 rfl ?_
    refine v_iload_n (n := 15) dX5_kinds_14 rfl 1 rfl rfl ?_
    refine v_iald (n := 16) dX5_kinds_15 (show isA 47 7 from rfl) rfl ?_
    refine v_lt (fun x3 => ?_)
    refine v_istore_n (n := 17) [(2, .int x3), (0, .ref (G.2.1 43)), (1, .int a1)] dX5_kinds_16 rfl (by decide) rfl rfl ?_
    refine v_iconst (n := 18) (v := 0) dX5_kinds_17 ci_0 rfl ?_
    refine v_istore_n (n := 19) [(3, .int (0 : Int32)), (2, .int x3), (0, .ref (G.2.1 43)), (1, .int a1)] dX5_kinds_18 rfl (by decide) rfl rfl ?_
    refine v_iconst (n := 20) (v := 0) dX5_kinds_19 ci_0 rfl ?_
    refine v_istore (n := 22) [(4, .int (0 : Int32)), (3, .int (0 : Int32)), (2, .int x3), (0, .ref (G.2.1 43)), (1, .int a1)] dX5_kinds_20 (by decide) rfl rfl ?_
    refine v_sub [3, 4, 2, 1, 0] rfl ?_
    refine v_x2 (px := 60) (lx := (fun x11 μ12 => [(0, .ref (G.2.1 43)), (1, .int a1), (2, .int x3), (3, .int x11)])) (mx := (fun x11 μ12 => μ12)) (fun kk hx => vlp_X5_kinds_22 G a1 x3 kk hx FU (0 : Int32) (0 : Int32) μ1) (fun x11 μ12 => ?_)
    refine v_aload_n (n := 61) dX5_kinds_60 rfl 0 rfl rfl ?_
    refine v_getR (n := 64) (i := 10) (q2 := 47) dX5_kinds_61 (show isO 43 5 from rfl) rfl fg_X5_19 rfl ?_
    refine v_iload_n (n := 65) dX5_kinds_64 rfl 1 rfl rfl ?_
    refine v_iload_n (n := 66) dX5_kinds_65 rfl 2 rfl rfl ?_
    refine v_iast (n := 67) dX5_kinds_66 (show isA 47 7 from rfl) rfl ?_
    refine v_lm (fun μ13 => ?_)
    refine v_iload_n (n := 68) dX5_kinds_67 rfl 3 rfl rfl ?_
    exact v_iret dX5_kinds_68 rfl rfl
theorem M_X5_kinds (G : GG) (a1 : Int32) (μ : Mem) (t : Int32 × Mem) (ht : f_X5_kinds a1 μ = some t) : GM G J_X5_kinds yX5_kinds [.ref (G.2.1 43), .int a1] μ (oI t) :=
  gm_of (J := J_X5_kinds) (k := kI) rfl (by decide) (Nat.le_of_ble_eq_true rfl) (v_X5_kinds G a1 μ) ht rfl
set_option maxRecDepth 100000 in
set_option maxHeartbeats 4000000 in
theorem vlp_X5_letterings_22 (G : GG) (x1v : Int32) (x2v : Int32) (kk : (Int32 × Mem) → Option Oc) (hx : ∀ (x3v : Int32) (μ : Mem), V G J_X5_letterings 61 [(0, .ref (G.2.1 43)), (1, .int x1v), (2, .int x2v), (3, .int x3v)] [] μ (kk (x3v, μ)) some) : ∀ (n : Nat) (x3v : Int32) (x4v : Int32) (μ : Mem), V G J_X5_letterings 22 [(0, .ref (G.2.1 43)), (1, .int x1v), (2, .int x2v), (3, .int x3v), (4, .int x4v)] [] μ (lp_X5_letterings_22 x1v x2v n x3v x4v μ) kk := by
  intro n
  induction n with
  | zero => intro _ _ _; exact v_none
  | succ n ih =>
    intro x3v x4v μ
    rw [lp_X5_letterings_22]
    refine v_iload (n := 24) dX5_letterings_22 4 rfl rfl ?_
    refine v_bipush (n := 26) (v := 9) dX5_letterings_24 cb_9 rfl ?_
    refine v_icmp_gt (tgt := 61) (n := 29) dX5_letterings_26 (by decide) rfl ?_ ?_
    · exact v_leaf (v_sub [0, 1, 2, 3] rfl (hx x3v μ))
    · refine v_aload_n (n := 30) dX5_letterings_29 rfl 0 rfl rfl ?_
      refine v_getR (n := 33) (i := 11) (q2 := 48) dX5_letterings_30 (show isO 43 5 from rfl) rfl fg_X5_22 rfl ?_
      refine v_iload_n (n := 34) dX5_letterings_33 rfl 1 rfl rfl ?_
      refine v_iload (n := 36) dX5_letterings_34 4 rfl rfl ?_
      refine v_iast (n := 37) dX5_letterings_36 (show isA 48 7 from rfl) rfl ?_
      refine v_lm (fun μ4 => ?_)
      refine v_iload_n (n := 38) dX5_letterings_37 rfl 3 rfl rfl ?_
      refine v_aload_n (n := 39) dX5_letterings_38 rfl 0 rfl rfl ?_
      refine v_cVi (n := 42) (st := [.int x3v]) [] dX5_letterings_39 (fun t ht => M_X5_areSo G μ4 t ht) cal_X5_areSo mw213 (show isO 43 5 from rfl) rfl rfl (Nat.le_of_ble_eq_true rfl) ⟨Nat.le_of_ble_eq_true rfl, Nat.le_of_ble_eq_true rfl⟩ rfl (fun x6 μ5 => ?_)
      refine v_if_eq (tgt := 52) (n := 45) dX5_letterings_42 (by decide) rfl ?_ ?_
      · refine v_iconst (n := 53) (v := 0) dX5_letterings_52 ci_0 rfl ?_
        refine v_ior (n := 54) dX5_letterings_53 rfl ?_
        refine v_lt (fun x7 => ?_)
        refine v_istore_n (n := 55) [(3, .int x7), (0, .ref (G.2.1 43)), (1, .int x1v), (2, .int x2v), (4, .int x4v)] dX5_letterings_54 rfl (by decide) rfl rfl ?_
        refine v_iinc (n := 58) (w := 1) (fun x8 => [(4, .int x8), (3, .int x7), (0, .ref (G.2.1 43)), (1, .int x1v), (2, .int x2v)]) dX5_letterings_55 4 rfl ci_1 (by decide) (fun _ => rfl) rfl (fun x8 => ?_)
        refine v_goto (tgt := 22) dX5_letterings_58 (by decide) ?_
        exact v_sub [2, 3, 4, 1, 0] rfl (ih x7 x8 μ5)
      · refine v_iconst (n := 46) (v := 1) dX5_letterings_45 ci_1 rfl ?_
        refine v_iload (n := 48) dX5_letterings_46 4 rfl rfl ?_
        refine v_ishl (n := 49) dX5_letterings_48 rfl ?_
        refine v_goto (tgt := 53) dX5_letterings_49 (by decide) ?_
        refine v_ior (n := 54) dX5_letterings_53 rfl ?_
        refine v_lt (fun x9 => ?_)
        refine v_istore_n (n := 55) [(3, .int x9), (0, .ref (G.2.1 43)), (1, .int x1v), (2, .int x2v), (4, .int x4v)] dX5_letterings_54 rfl (by decide) rfl rfl ?_
        refine v_iinc (n := 58) (w := 1) (fun x10 => [(4, .int x10), (3, .int x9), (0, .ref (G.2.1 43)), (1, .int x1v), (2, .int x2v)]) dX5_letterings_55 4 rfl ci_1 (by decide) (fun _ => rfl) rfl (fun x10 => ?_)
        refine v_goto (tgt := 22) dX5_letterings_58 (by decide) ?_
        exact v_sub [2, 3, 4, 1, 0] rfl (ih x9 x10 μ5)
set_option maxRecDepth 100000 in
set_option maxHeartbeats 4000000 in
theorem v_X5_letterings (G : GG) (a1 : Int32) (μ : Mem) : V G J_X5_letterings 0 [(0, .ref (G.2.1 43)), (1, .int a1)] [] μ (f_X5_letterings a1 μ) kI := by
  rw [f_X5_letterings]
  refine v_aload_n (n := 1) dX5_letterings_0 rfl 0 rfl rfl ?_
  refine v_iload_n (n := 2) dX5_letterings_1 rfl 1 rfl rfl ?_
  refine v_cVi (n := 5) (st := []) [.int a1] dX5_letterings_2 (fun t ht => M_X5_isLeft G a1 μ t ht) cal_X5_isLeft mw198 (show isO 43 5 from rfl) rfl rfl (Nat.le_of_ble_eq_true rfl) ⟨Nat.le_of_ble_eq_true rfl, Nat.le_of_ble_eq_true rfl⟩ rfl (fun x2 μ1 => ?_)
  refine v_if_ne (tgt := 10) (n := 8) dX5_letterings_5 (by decide) rfl ?_ ?_
  · refine v_iconst (n := 9) (v := -1) dX5_letterings_8 ci_m1 rfl ?_
    exact v_iret dX5_letterings_9 rfl rfl
  · refine v_aload_n (n := 11) dX5_letterings_10 rfl 0 rfl rfl ?_
    refine v_getR (n := 14) (i := 11) (q2 := 48) dX5_letterings_11 (show isO 43 5 from rfl) rfl fg_X5_22 rfl ?_
    refine v_iload_n (n := 15) dX5_letterings_14 rfl 1 rfl rfl ?_
    refine v_iald (n := 16) dX5_letterings_15 (show isA 48 7 from rfl) rfl ?_
    refine v_lt (fun x3 => ?_)
    refine v_istore_n (n := 17) [(2, .int x3), (0, .ref (G.2.1 43)), (1, .int a1)] dX5_letterings_16 rfl (by decide) rfl rfl ?_
    refine v_iconst (n := 18) (v := 0) dX5_letterings_17 ci_0 rfl ?_
    refine v_istore_n (n := 19) [(3, .int (0 : Int32)), (2, .int x3), (0, .ref (G.2.1 43)), (1, .int a1)] dX5_letterings_18 rfl (by decide) rfl rfl ?_
    refine v_iconst (n := 20) (v := 1) dX5_letterings_19 ci_1 rfl ?_
    refine v_istore (n := 22) [(4, .int (1 : Int32)), (3, .int (0 : Int32)), (2, .int x3), (0, .ref (G.2.1 43)), (1, .int a1)] dX5_letterings_20 (by decide) rfl rfl ?_
    refine v_sub [3, 4, 2, 1, 0] rfl ?_
    refine v_x2 (px := 61) (lx := (fun x11 μ12 => [(0, .ref (G.2.1 43)), (1, .int a1), (2, .int x3), (3, .int x11)])) (mx := (fun x11 μ12 => μ12)) (fun kk hx => vlp_X5_letterings_22 G a1 x3 kk hx FU (0 : Int32) (1 : Int32) μ1) (fun x11 μ12 => ?_)
    refine v_aload_n (n := 62) dX5_letterings_61 rfl 0 rfl rfl ?_
    refine v_getR (n := 65) (i := 11) (q2 := 48) dX5_letterings_62 (show isO 43 5 from rfl) rfl fg_X5_22 rfl ?_
    refine v_iload_n (n := 66) dX5_letterings_65 rfl 1 rfl rfl ?_
    refine v_iload_n (n := 67) dX5_letterings_66 rfl 2 rfl rfl ?_
    refine v_iast (n := 68) dX5_letterings_67 (show isA 48 7 from rfl) rfl ?_
    refine v_lm (fun μ13 => ?_)
    refine v_iload_n (n := 69) dX5_letterings_68 rfl 3 rfl rfl ?_
    exact v_iret dX5_letterings_69 rfl rfl
theorem M_X5_letterings (G : GG) (a1 : Int32) (μ : Mem) (t : Int32 × Mem) (ht : f_X5_letterings a1 μ = some t) : GM G J_X5_letterings yX5_letterings [.ref (G.2.1 43), .int a1] μ (oI t) :=
  gm_of (J := J_X5_letterings) (k := kI) rfl (by decide) (Nat.le_of_ble_eq_true rfl) (v_X5_letterings G a1 μ) ht rfl
set_option maxRecDepth 100000 in
set_option maxHeartbeats 4000000 in
theorem vlp_X5_inLeastTerms_6 (G : GG) (x0v : Int64) (x2v : Int64) (x4v : Int32) (kk : (Int64 × Mem) → Option Oc) (hx : ∀ (x5v : Int64) (μ : Mem), V G J_X5_inLeastTerms 31 [(0, .long x0v), (2, .long x2v), (4, .int x4v), (5, .long x5v)] [] μ (kk (x5v, μ)) some) : ∀ (n : Nat) (x5v : Int64) (x7v : Int64) (μ : Mem), V G J_X5_inLeastTerms 6 [(0, .long x0v), (2, .long x2v), (4, .int x4v), (5, .long x5v), (7, .long x7v)] [] μ (lp_X5_inLeastTerms_6 x0v x2v x4v n x5v x7v μ) kk := by
  intro n
  induction n with
  | zero => intro _ _ _; exact v_none
  | succ n ih =>
    intro x5v x7v μ
    rw [lp_X5_inLeastTerms_6]
    refine v_lload (n := 8) dX5_inLeastTerms_6 4 rfl rfl ?_
    refine v_lconst (n := 9) (v := 0) dX5_inLeastTerms_8 rfl rfl ?_
    refine v_lcmp (n := 10) dX5_inLeastTerms_9 rfl ?_
    refine v_if_eq (tgt := 31) (n := 13) dX5_inLeastTerms_10 (by decide) rfl ?_ ?_
    · exact v_leaf (v_sub [0, 1, 2, 3] rfl (hx x5v μ))
    · refine v_lload (n := 15) dX5_inLeastTerms_13 3 rfl rfl ?_
      refine v_lload (n := 17) dX5_inLeastTerms_15 4 rfl rfl ?_
      refine v_lrem (n := 18) dX5_inLeastTerms_17 rfl ?_
      refine v_ltL (fun x1 => ?_)
      refine v_lstore (n := 20) [(9, .long x1), (0, .long x0v), (2, .long x2v), (4, .int x4v), (5, .long x5v), (7, .long x7v)] dX5_inLeastTerms_18 (by decide) rfl rfl ?_
      refine v_lload (n := 22) dX5_inLeastTerms_20 5 rfl rfl ?_
      refine v_lstore (n := 24) [(5, .long x7v), (9, .long x1), (0, .long x0v), (2, .long x2v), (4, .int x4v), (7, .long x7v)] dX5_inLeastTerms_22 (by decide) rfl rfl ?_
      refine v_lload (n := 26) dX5_inLeastTerms_24 1 rfl rfl ?_
      refine v_lstore (n := 28) [(7, .long x1), (5, .long x7v), (9, .long x1), (0, .long x0v), (2, .long x2v), (4, .int x4v)] dX5_inLeastTerms_26 (by decide) rfl rfl ?_
      refine v_goto (tgt := 6) dX5_inLeastTerms_28 (by decide) ?_
      exact v_sub [3, 4, 5, 1, 0] rfl (ih x7v x1 μ)
set_option maxRecDepth 100000 in
set_option maxHeartbeats 4000000 in
theorem v_X5_inLeastTerms (G : GG) (a0 : Int64) (a2 : Int64) (a4 : Int32) (μ : Mem) : V G J_X5_inLeastTerms 0 [(0, .long a0), (2, .long a2), (4, .int a4)] [] μ (f_X5_inLeastTerms a0 a2 a4 μ) kL := by
  rw [f_X5_inLeastTerms]
  refine v_lload_n (n := 1) dX5_inLeastTerms_0 rfl 0 rfl rfl ?_
  refine v_lstore (n := 3) [(5, .long a0), (0, .long a0), (2, .long a2), (4, .int a4)] dX5_inLeastTerms_1 (by decide) rfl rfl ?_
  refine v_lload_n (n := 4) dX5_inLeastTerms_3 rfl 2 rfl rfl ?_
  refine v_lstore (n := 6) [(7, .long a2), (5, .long a0), (0, .long a0), (2, .long a2), (4, .int a4)] dX5_inLeastTerms_4 (by decide) rfl rfl ?_
  refine v_sub [2, 3, 4, 1, 0] rfl ?_
  refine v_x2 (px := 31) (lx := (fun x2 μ3 => [(0, .long a0), (2, .long a2), (4, .int a4), (5, .long x2)])) (mx := (fun x2 μ3 => μ3)) (fun kk hx => vlp_X5_inLeastTerms_6 G a0 a2 a4 kk hx FU a0 a2 μ) (fun x2 μ3 => ?_)
  refine v_iload (n := 33) dX5_inLeastTerms_31 2 rfl rfl ?_
  refine v_if_ne (tgt := 43) (n := 36) dX5_inLeastTerms_33 (by decide) rfl ?_ ?_
  · refine v_lload_n (n := 37) dX5_inLeastTerms_36 rfl 0 rfl rfl ?_
    refine v_lload (n := 39) dX5_inLeastTerms_37 3 rfl rfl ?_
    refine v_ldiv (n := 40) dX5_inLeastTerms_39 rfl ?_
    refine v_goto (tgt := 47) dX5_inLeastTerms_40 (by decide) ?_
    exact v_lret dX5_inLeastTerms_47 rfl rfl
  · refine v_lload_n (n := 44) dX5_inLeastTerms_43 rfl 1 rfl rfl ?_
    refine v_lload (n := 46) dX5_inLeastTerms_44 3 rfl rfl ?_
    refine v_ldiv (n := 47) dX5_inLeastTerms_46 rfl ?_
    exact v_lret dX5_inLeastTerms_47 rfl rfl
theorem M_X5_inLeastTerms (G : GG) (a0 : Int64) (a2 : Int64) (a4 : Int32) (μ : Mem) (t : Int64 × Mem) (ht : f_X5_inLeastTerms a0 a2 a4 μ = some t) : GM G J_X5_inLeastTerms yX5_inLeastTerms [.long a0, .long a2, .int a4] μ (oL t) :=
  gm_of (J := J_X5_inLeastTerms) (k := kL) rfl (by decide) (Nat.le_of_ble_eq_true rfl) (v_X5_inLeastTerms G a0 a2 a4 μ) ht rfl
set_option maxRecDepth 100000 in
set_option maxHeartbeats 4000000 in
theorem vlp_X5_odds_43 (G : GG) (x1v : Int32) (x2v : Int32) (kk : (Int32 × Mem) → Option Oc) (hx : ∀ (x3v : Int32) (μ : Mem), V G J_X5_odds 77 [(0, .ref (G.2.1 43)), (2, .int x2v), (3, .int x3v)] [] μ (kk (x3v, μ)) some) : ∀ (n : Nat) (x3v : Int32) (x4v : Int32) (μ : Mem), V G J_X5_odds 43 [(0, .ref (G.2.1 43)), (1, .int x1v), (2, .int x2v), (3, .int x3v), (4, .int x4v)] [] μ (lp_X5_odds_43 x1v x2v n x3v x4v μ) kk := by
  intro n
  induction n with
  | zero => intro _ _ _; exact v_none
  | succ n ih =>
    intro x3v x4v μ
    rw [lp_X5_odds_43]
    refine v_iload (n := 45) dX5_odds_43 4 rfl rfl ?_
    refine v_aload_n (n := 46) dX5_odds_45 rfl 0 rfl rfl ?_
    refine v_getI (n := 49) (i := 24) dX5_odds_46 (show isO 43 5 from rfl) rfl fg_X5_165 rfl ?_
    refine v_icmp_ge (tgt := 77) (n := 52) dX5_odds_49 (by decide) rfl ?_ ?_
    · exact v_leaf (v_sub [0, 2, 3] rfl (hx x3v μ))
    · refine v_iload_n (n := 53) dX5_odds_52 rfl 3 rfl rfl ?_
      refine v_aload_n (n := 54) dX5_odds_53 rfl 0 rfl rfl ?_
      refine v_getR (n := 57) (i := 25) (q2 := 58) dX5_odds_54 (show isO 43 5 from rfl) rfl fg_X5_52 rfl ?_
      refine v_iload (n := 59) dX5_odds_57 4 rfl rfl ?_
      refine v_iald (n := 60) dX5_odds_59 (show isA 58 14 from rfl) rfl ?_
      refine v_iload_n (n := 61) dX5_odds_60 rfl 1 rfl rfl ?_
      refine v_icmp_ne (tgt := 68) (n := 64) dX5_odds_61 (by decide) rfl ?_ ?_
      · refine v_iconst (n := 65) (v := 1) dX5_odds_64 ci_1 rfl ?_
        refine v_goto (tgt := 69) dX5_odds_65 (by decide) ?_
        refine v_iadd (n := 70) dX5_odds_69 rfl ?_
        refine v_lt (fun x9 => ?_)
        refine v_istore_n (n := 71) [(3, .int x9), (0, .ref (G.2.1 43)), (1, .int x1v), (2, .int x2v), (4, .int x4v)] dX5_odds_70 rfl (by decide) rfl rfl ?_
        refine v_iinc (n := 74) (w := 1) (fun x10 => [(4, .int x10), (3, .int x9), (0, .ref (G.2.1 43)), (1, .int x1v), (2, .int x2v)]) dX5_odds_71 4 rfl ci_1 (by decide) (fun _ => rfl) rfl (fun x10 => ?_)
        refine v_goto (tgt := 43) dX5_odds_74 (by decide) ?_
        exact v_sub [2, 3, 4, 1, 0] rfl (ih x9 x10 μ)
      · refine v_iconst (n := 69) (v := 0) dX5_odds_68 ci_0 rfl ?_
        refine v_iadd (n := 70) dX5_odds_69 rfl ?_
        refine v_lt (fun x7 => ?_)
        refine v_istore_n (n := 71) [(3, .int x7), (0, .ref (G.2.1 43)), (1, .int x1v), (2, .int x2v), (4, .int x4v)] dX5_odds_70 rfl (by decide) rfl rfl ?_
        refine v_iinc (n := 74) (w := 1) (fun x8 => [(4, .int x8), (3, .int x7), (0, .ref (G.2.1 43)), (1, .int x1v), (2, .int x2v)]) dX5_odds_71 4 rfl ci_1 (by decide) (fun _ => rfl) rfl (fun x8 => ?_)
        refine v_goto (tgt := 43) dX5_odds_74 (by decide) ?_
        exact v_sub [2, 3, 4, 1, 0] rfl (ih x7 x8 μ)
set_option maxRecDepth 100000 in
set_option maxHeartbeats 4000000 in
theorem v_X5_odds (G : GG) (a1 : Int32) (a2 : Int32) (μ : Mem) : V G J_X5_odds 0 [(0, .ref (G.2.1 43)), (1, .int a1), (2, .int a2)] [] μ (f_X5_odds a1 a2 μ) kL := by
  rw [f_X5_odds]
  refine v_iload_n (n := 1) dX5_odds_0 rfl 1 rfl rfl ?_
  refine v_iconst (n := 2) (v := 0) dX5_odds_1 ci_0 rfl ?_
  refine v_iconst (n := 3) (v := 4) dX5_odds_2 ci_4 rfl ?_
  refine v_cSi (n := 6) (st := []) [.int a1, .int (0 : Int32), .int (4 : Int32)] dX5_odds_3 (fun t ht => M_X5_within G a1 (0 : Int32) (4 : Int32) μ t ht) cal_X5_within mw151 rfl rfl (Nat.le_of_ble_eq_true rfl) ⟨Nat.le_of_ble_eq_true rfl, Nat.le_of_ble_eq_true rfl⟩ rfl (fun x2 μ1 => ?_)
  refine v_if_eq (tgt := 34) (n := 9) dX5_odds_6 (by decide) rfl ?_ ?_
  · refine v_ldc2 (n := 37) (v := -9223372036854775808) dX5_odds_34 mw150 rfl ?_
    exact v_lret dX5_odds_37 rfl rfl
  · refine v_iload_n (n := 10) dX5_odds_9 rfl 2 rfl rfl ?_
    refine v_iconst (n := 11) (v := 0) dX5_odds_10 ci_0 rfl ?_
    refine v_iconst (n := 12) (v := 1) dX5_odds_11 ci_1 rfl ?_
    refine v_cSi (n := 15) (st := []) [.int a2, .int (0 : Int32), .int (1 : Int32)] dX5_odds_12 (fun t ht => M_X5_within G a2 (0 : Int32) (1 : Int32) μ1 t ht) cal_X5_within mw151 rfl rfl (Nat.le_of_ble_eq_true rfl) ⟨Nat.le_of_ble_eq_true rfl, Nat.le_of_ble_eq_true rfl⟩ rfl (fun x4 μ3 => ?_)
    refine v_if_eq (tgt := 34) (n := 18) dX5_odds_15 (by decide) rfl ?_ ?_
    · refine v_ldc2 (n := 37) (v := -9223372036854775808) dX5_odds_34 mw150 rfl ?_
      exact v_lret dX5_odds_37 rfl rfl
    · refine v_aload_n (n := 19) dX5_odds_18 rfl 0 rfl rfl ?_
      refine v_getI (n := 22) (i := 5) dX5_odds_19 (show isO 43 5 from rfl) rfl fg_X5_80 rfl ?_
      refine v_if_eq (tgt := 34) (n := 25) dX5_odds_22 (by decide) rfl ?_ ?_
      · refine v_ldc2 (n := 37) (v := -9223372036854775808) dX5_odds_34 mw150 rfl ?_
        exact v_lret dX5_odds_37 rfl rfl
      · refine v_aload_n (n := 26) dX5_odds_25 rfl 0 rfl rfl ?_
        refine v_cVi (n := 29) (st := []) [] dX5_odds_26 (fun t ht => M_X5_findBest G μ3 t ht) cal_X5_findBest mw199 (show isO 43 5 from rfl) rfl rfl (Nat.le_of_ble_eq_true rfl) ⟨Nat.le_of_ble_eq_true rfl, Nat.le_of_ble_eq_true rfl⟩ rfl (fun x6 μ5 => ?_)
        refine v_bipush (n := 31) (v := -9) dX5_odds_29 cb_m9 rfl ?_
        refine v_icmp_ne (tgt := 38) (n := 34) dX5_odds_31 (by decide) rfl ?_ ?_
        · refine v_ldc2 (n := 37) (v := -9223372036854775808) dX5_odds_34 mw150 rfl ?_
          exact v_lret dX5_odds_37 rfl rfl
        · refine v_iconst (n := 39) (v := 0) dX5_odds_38 ci_0 rfl ?_
          refine v_istore_n (n := 40) [(3, .int (0 : Int32)), (0, .ref (G.2.1 43)), (1, .int a1), (2, .int a2)] dX5_odds_39 rfl (by decide) rfl rfl ?_
          refine v_iconst (n := 41) (v := 0) dX5_odds_40 ci_0 rfl ?_
          refine v_istore (n := 43) [(4, .int (0 : Int32)), (3, .int (0 : Int32)), (0, .ref (G.2.1 43)), (1, .int a1), (2, .int a2)] dX5_odds_41 (by decide) rfl rfl ?_
          refine v_sub [2, 3, 4, 1, 0] rfl ?_
          refine v_x2 (px := 77) (lx := (fun x11 μ12 => [(0, .ref (G.2.1 43)), (2, .int a2), (3, .int x11)])) (mx := (fun x11 μ12 => μ12)) (fun kk hx => vlp_X5_odds_43 G a1 a2 kk hx FU (0 : Int32) (0 : Int32) μ5) (fun x11 μ12 => ?_)
          refine v_iload_n (n := 78) dX5_odds_77 rfl 2 rfl rfl ?_
          refine v_i2l (n := 79) dX5_odds_78 rfl ?_
          refine v_aload_n (n := 80) dX5_odds_79 rfl 0 rfl rfl ?_
          refine v_getI (n := 83) (i := 24) dX5_odds_80 (show isO 43 5 from rfl) rfl fg_X5_165 rfl ?_
          refine v_i2l (n := 84) dX5_odds_83 rfl ?_
          refine v_iload_n (n := 85) dX5_odds_84 rfl 1 rfl rfl ?_
          refine v_cSl (n := 88) (st := []) [.long ((x11).toInt64), .long ((μ12 43 24).toInt64), .int a2] dX5_odds_85 (fun t ht => M_X5_inLeastTerms G ((x11).toInt64) ((μ12 43 24).toInt64) a2 μ12 t ht) cal_X5_inLeastTerms mw214 rfl rfl (Nat.le_of_ble_eq_true rfl) ⟨Nat.le_of_ble_eq_true rfl, Nat.le_of_ble_eq_true rfl⟩ rfl (fun x14 μ13 => ?_)
          exact v_lret dX5_odds_88 rfl rfl
theorem M_X5_odds (G : GG) (a1 : Int32) (a2 : Int32) (μ : Mem) (t : Int64 × Mem) (ht : f_X5_odds a1 a2 μ = some t) : GM G J_X5_odds yX5_odds [.ref (G.2.1 43), .int a1, .int a2] μ (oL t) :=
  gm_of (J := J_X5_odds) (k := kL) rfl (by decide) (Nat.le_of_ble_eq_true rfl) (v_X5_odds G a1 a2 μ) ht rfl
set_option maxRecDepth 100000 in
set_option maxHeartbeats 4000000 in
theorem vlp_X5_sheet_57 (G : GG) (x1v : Int32) (kk : (Mem) → Option Oc) (hx : ∀ (μ : Mem), V G J_X5_sheet 83 [] [] μ (kk μ) some) : ∀ (n : Nat) (x4v : Int32) (μ : Mem), V G J_X5_sheet 57 [(0, .ref (G.2.1 43)), (1, .int x1v), (4, .int x4v)] [] μ (lp_X5_sheet_57 x1v n x4v μ) kk := by
  intro n
  induction n with
  | zero => intro _ _; exact v_none
  | succ n ih =>
    intro x4v μ
    rw [lp_X5_sheet_57]
    refine v_iload (n := 59) dX5_sheet_57 2 rfl rfl ?_
    refine v_bipush (n := 61) (v := 60) dX5_sheet_59 cb_60 rfl ?_
    refine v_icmp_ge (tgt := 83) (n := 64) dX5_sheet_61 (by decide) rfl ?_ ?_
    · exact v_leaf (v_sub [] rfl (hx  μ))
    · refine v_aload_n (n := 65) dX5_sheet_64 rfl 0 rfl rfl ?_
      refine v_getR (n := 68) (i := 4) (q2 := 46) dX5_sheet_65 (show isO 43 5 from rfl) rfl fg_X5_16 rfl ?_
      refine v_bipush (n := 70) (v := 60) dX5_sheet_68 cb_60 rfl ?_
      refine v_iload_n (n := 71) dX5_sheet_70 rfl 1 rfl rfl ?_
      refine v_imul (n := 72) dX5_sheet_71 rfl ?_
      refine v_iload (n := 74) dX5_sheet_72 2 rfl rfl ?_
      refine v_iadd (n := 75) dX5_sheet_74 rfl ?_
      refine v_iconst (n := 76) (v := 0) dX5_sheet_75 ci_0 rfl ?_
      refine v_iast (n := 77) dX5_sheet_76 (show isA 46 240 from rfl) rfl ?_
      refine v_lm (fun μ8 => ?_)
      refine v_iinc (n := 80) (w := 1) (fun x9 => [(4, .int x9), (0, .ref (G.2.1 43)), (1, .int x1v)]) dX5_sheet_77 2 rfl ci_1 (by decide) (fun _ => rfl) rfl (fun x9 => ?_)
      refine v_goto (tgt := 57) dX5_sheet_80 (by decide) ?_
      exact v_sub [1, 2, 0] rfl (ih x9 μ8)
set_option maxRecDepth 100000 in
set_option maxHeartbeats 4000000 in
theorem v_X5_sheet (G : GG) (a1 : Int32) (a2 : Int32) (a3 : Int32) (μ : Mem) : V G J_X5_sheet 0 [(0, .ref (G.2.1 43)), (1, .int a1), (2, .int a2), (3, .int a3)] [] μ (f_X5_sheet a1 a2 a3 μ) kI := by
  rw [f_X5_sheet]
  refine v_aload_n (n := 1) dX5_sheet_0 rfl 0 rfl rfl ?_
  refine v_iconst (n := 2) (v := 0) dX5_sheet_1 ci_0 rfl ?_
  refine v_put (n := 5) (i := 0) dX5_sheet_2 (show isO 43 5 from rfl) rfl fp_X5_70 rfl rfl rfl ?_
  refine v_lm (fun μ1 => ?_)
  refine v_iload_n (n := 6) dX5_sheet_5 rfl 1 rfl rfl ?_
  refine v_cSi (n := 9) (st := []) [.int a1] dX5_sheet_6 (fun t ht => M_X5_isSheet G a1 μ1 t ht) cal_X5_isSheet mw166 rfl rfl (Nat.le_of_ble_eq_true rfl) ⟨Nat.le_of_ble_eq_true rfl, Nat.le_of_ble_eq_true rfl⟩ rfl (fun x3 μ2 => ?_)
  refine v_if_ne (tgt := 14) (n := 12) dX5_sheet_9 (by decide) rfl ?_ ?_
  · refine v_iconst (n := 13) (v := -1) dX5_sheet_12 ci_m1 rfl ?_
    exact v_iret dX5_sheet_13 rfl rfl
  · refine v_iload_n (n := 15) dX5_sheet_14 rfl 2 rfl rfl ?_
    refine v_cSi (n := 18) (st := []) [.int a2] dX5_sheet_15 (fun t ht => M_X5_isSort G a2 μ2 t ht) cal_X5_isSort mw167 rfl rfl (Nat.le_of_ble_eq_true rfl) ⟨Nat.le_of_ble_eq_true rfl, Nat.le_of_ble_eq_true rfl⟩ rfl (fun x5 μ4 => ?_)
    refine v_if_eq (tgt := 27) (n := 21) dX5_sheet_18 (by decide) rfl ?_ ?_
    · refine v_bipush (n := 29) (v := -2) dX5_sheet_27 cb_m2 rfl ?_
      exact v_iret dX5_sheet_29 rfl rfl
    · refine v_iload_n (n := 22) dX5_sheet_21 rfl 3 rfl rfl ?_
      refine v_bipush (n := 24) (v := 60) dX5_sheet_22 cb_60 rfl ?_
      refine v_icmp_le (tgt := 30) (n := 27) dX5_sheet_24 (by decide) rfl ?_ ?_
      · refine v_iload_n (n := 31) dX5_sheet_30 rfl 3 rfl rfl ?_
        refine v_if_ge (tgt := 40) (n := 34) dX5_sheet_31 (by decide) rfl ?_ ?_
        · refine v_aload_n (n := 41) dX5_sheet_40 rfl 0 rfl rfl ?_
          refine v_getR (n := 44) (i := 2) (q2 := 44) dX5_sheet_41 (show isO 43 5 from rfl) rfl fg_X5_9 rfl ?_
          refine v_iload_n (n := 45) dX5_sheet_44 rfl 1 rfl rfl ?_
          refine v_iload_n (n := 46) dX5_sheet_45 rfl 2 rfl rfl ?_
          refine v_iast (n := 47) dX5_sheet_46 (show isA 44 4 from rfl) rfl ?_
          refine v_lm (fun μ6 => ?_)
          refine v_aload_n (n := 48) dX5_sheet_47 rfl 0 rfl rfl ?_
          refine v_getR (n := 51) (i := 3) (q2 := 45) dX5_sheet_48 (show isO 43 5 from rfl) rfl fg_X5_13 rfl ?_
          refine v_iload_n (n := 52) dX5_sheet_51 rfl 1 rfl rfl ?_
          refine v_iload_n (n := 53) dX5_sheet_52 rfl 3 rfl rfl ?_
          refine v_iast (n := 54) dX5_sheet_53 (show isA 45 4 from rfl) rfl ?_
          refine v_lm (fun μ7 => ?_)
          refine v_iconst (n := 55) (v := 0) dX5_sheet_54 ci_0 rfl ?_
          refine v_istore (n := 57) [(4, .int (0 : Int32)), (0, .ref (G.2.1 43)), (1, .int a1), (2, .int a2), (3, .int a3)] dX5_sheet_55 (by decide) rfl rfl ?_
          refine v_sub [1, 2, 0] rfl ?_
          refine v_x1 (px := 83) (lx := (fun μ10 => [])) (mx := (fun μ10 => μ10)) (fun kk hx => vlp_X5_sheet_57 G a1 kk hx FU (0 : Int32) μ7) (fun μ10 => ?_)
          refine v_iconst (n := 84) (v := 1) dX5_sheet_83 ci_1 rfl ?_
          exact v_iret dX5_sheet_84 rfl rfl
        · refine v_aload_n (n := 35) dX5_sheet_34 rfl 0 rfl rfl ?_
          refine v_iconst (n := 36) (v := 4) dX5_sheet_35 ci_4 rfl ?_
          refine v_cVi (n := 39) (st := []) [.int (4 : Int32)] dX5_sheet_36 (fun t ht => M_X5_fails G (4 : Int32) μ4 t ht) cal_X5_fails mw179 (show isO 43 5 from rfl) rfl rfl (Nat.le_of_ble_eq_true rfl) ⟨Nat.le_of_ble_eq_true rfl, Nat.le_of_ble_eq_true rfl⟩ rfl (fun x12 μ11 => ?_)
          exact v_iret dX5_sheet_39 rfl rfl
      · refine v_bipush (n := 29) (v := -2) dX5_sheet_27 cb_m2 rfl ?_
        exact v_iret dX5_sheet_29 rfl rfl
theorem M_X5_sheet (G : GG) (a1 : Int32) (a2 : Int32) (a3 : Int32) (μ : Mem) (t : Int32 × Mem) (ht : f_X5_sheet a1 a2 a3 μ = some t) : GM G J_X5_sheet yX5_sheet [.ref (G.2.1 43), .int a1, .int a2, .int a3] μ (oI t) :=
  gm_of (J := J_X5_sheet) (k := kI) rfl (by decide) (Nat.le_of_ble_eq_true rfl) (v_X5_sheet G a1 a2 a3 μ) ht rfl
