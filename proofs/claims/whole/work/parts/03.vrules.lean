theorem v_none {G : GG} {J : MD} {pc : Nat} {lv : List (Nat × Value)} {st : List Value} {μ : Mem} {R : Type} {k : R → Option Oc} : V G J pc lv st μ (none : Option R) k := by intro r hr; cases hr
theorem v_leaf {G : GG} {J : MD} {pc : Nat} {lv : List (Nat × Value)} {st : List Value} {μ : Mem} {R : Type} {k : R → Option Oc} {t : R} (h : V G J pc lv st μ (k t) some) : V G J pc lv st μ (some t) k := by
  intro r hr o ho
  cases hr
  exact h o ho o rfl
theorem v_sub {G : GG} {J : MD} {pc : Nat} {lv : List (Nat × Value)} {st : List Value} {μ : Mem} {R : Type} {x : Option R} {k : R → Option Oc} {lv' : List (Nat × Value)} (ks : List Nat) (hl : lv_pick lv ks = lv') (h : V G J pc lv' st μ x k) : V G J pc lv st μ x k := by
  intro r hr o ho p l e s m args below meth c C H locs ls hP hS hls
  exact h r hr o ho p l e s m args below meth c C H locs ls hP hS (lv_sub hls ks hl)
theorem v_lt {G : GG} {J : MD} {pc : Nat} {lv : List (Nat × Value)} {st : List Value} {μ : Mem} {R : Type} {k : R → Option Oc} {z : Int32} {f : Int32 → Option R} (h : ∀ y, V G J pc lv (.int y :: st) μ (f y) k) : V G J pc lv (.int z :: st) μ (lt z f) k := h z
theorem v_ltL {G : GG} {J : MD} {pc : Nat} {lv : List (Nat × Value)} {st : List Value} {μ : Mem} {R : Type} {k : R → Option Oc} {z : Int64} {f : Int64 → Option R} (h : ∀ y, V G J pc lv (.long y :: st) μ (f y) k) : V G J pc lv (.long z :: st) μ (lt z f) k := h z
theorem v_lm {G : GG} {J : MD} {pc : Nat} {lv : List (Nat × Value)} {st : List Value} {μ : Mem} {R : Type} {k : R → Option Oc} {f : Mem → Option R} (h : ∀ y, V G J pc lv st y (f y) k) : V G J pc lv st μ (lt μ f) k := h μ
theorem v_bind {G : GG} {J : MD} {pc : Nat} {lv : List (Nat × Value)} {st : List Value} {μ : Mem} {R : Type} {k : R → Option Oc} {A : Type} {z : Option A} {f : A → Option R} (h : V G J pc lv st μ z (fun a => (f a).bind k)) : V G J pc lv st μ (z.bind f) k := by
  intro r hr o ho
  cases z with
  | none => cases hr
  | some a => exact h a rfl o (by show (f a).bind k = some o; rw [show f a = some r from hr]; exact ho)
theorem v_some {G : GG} {J : MD} {pc : Nat} {lv : List (Nat × Value)} {st : List Value} {μ : Mem} {R : Type} {x : Option R} {k : R → Option Oc} (h : V G J pc lv st μ x k) : V G J pc lv st μ (x.bind k) some := by
  intro r hr o ho
  cases x with
  | none => cases hr
  | some a => cases ho; exact h a rfl r hr
theorem v_loop {G : GG} {J : MD} {pc : Nat} {lv : List (Nat × Value)} {st : List Value} {μ : Mem} {R : Type} {k : R → Option Oc} {T : Type} {z : Option T} {f : T → Option R} (hz : ∀ kk : T → Option Oc, (∀ t, kk t = (f t).bind k) → V G J pc lv st μ z kk) : V G J pc lv st μ (z.bind f) k := v_bind (hz _ (fun _ => rfl))
theorem v_iconst {G : GG} {J : MD} {pc : Nat} {lv : List (Nat × Value)} {st : List Value} {μ : Mem} {R : Type} {x : Option R} {k : R → Option Oc} {q : Int} {v : Int32} (d : decode J.2.1 pc = .ok (.iconst q, 1)) (hv : Int32.ofInt q = v) {n : Nat} (hn : pc + 1 = n) (h : V G J n lv (.int v :: st) μ x k) : V G J pc lv (st) μ x k := by
  subst hn
  intro r hr o ho p l e s m args below meth c C H locs ls hP hS hl
  exact lv_iconst C.1 C.2.1 d hv (h r hr o ho p l e s m args below meth c C H locs ls hP hS hl)
theorem v_bipush {G : GG} {J : MD} {pc : Nat} {lv : List (Nat × Value)} {st : List Value} {μ : Mem} {R : Type} {x : Option R} {k : R → Option Oc} {q : Int} {v : Int32} (d : decode J.2.1 pc = .ok (.bipush q, 2)) (hv : (Int8.ofInt q).toInt32 = v) {n : Nat} (hn : pc + 2 = n) (h : V G J n lv (.int v :: st) μ x k) : V G J pc lv (st) μ x k := by
  subst hn
  intro r hr o ho p l e s m args below meth c C H locs ls hP hS hl
  exact lv_bipush C.1 C.2.1 d hv (h r hr o ho p l e s m args below meth c C H locs ls hP hS hl)
theorem v_sipush {G : GG} {J : MD} {pc : Nat} {lv : List (Nat × Value)} {st : List Value} {μ : Mem} {R : Type} {x : Option R} {k : R → Option Oc} {q : Int} {v : Int32} (d : decode J.2.1 pc = .ok (.sipush q, 3)) (hv : (Int16.ofInt q).toInt32 = v) {n : Nat} (hn : pc + 3 = n) (h : V G J n lv (.int v :: st) μ x k) : V G J pc lv (st) μ x k := by
  subst hn
  intro r hr o ho p l e s m args below meth c C H locs ls hP hS hl
  exact lv_sipush C.1 C.2.1 d hv (h r hr o ho p l e s m args below meth c C H locs ls hP hS hl)
theorem v_lconst {G : GG} {J : MD} {pc : Nat} {lv : List (Nat × Value)} {st : List Value} {μ : Mem} {R : Type} {x : Option R} {k : R → Option Oc} {q : Fin 2} {v : Int64} (d : decode J.2.1 pc = .ok (.lconst q, 1)) (hv : Int64.ofNat (q : Nat) = v) {n : Nat} (hn : pc + 1 = n) (h : V G J n lv (.long v :: st) μ x k) : V G J pc lv (st) μ x k := by
  subst hn
  intro r hr o ho p l e s m args below meth c C H locs ls hP hS hl
  exact lv_lconst C.1 C.2.1 d hv (h r hr o ho p l e s m args below meth c C H locs ls hP hS hl)
theorem v_ldc {G : GG} {J : MD} {pc : Nat} {lv : List (Nat × Value)} {st : List Value} {μ : Mem} {R : Type} {x : Option R} {k : R → Option Oc} {idx : Nat} {v : Int32} (d : decode J.2.1 pc = .ok (.ldc idx, 2)) (hv : Cond.constant J.1 idx v ∈ TB) {n : Nat} (hn : pc + 2 = n) (h : V G J n lv (.int v :: st) μ x k) : V G J pc lv st μ x k := by
  subst hn
  intro r hr o ho p l e s m args below meth c C H locs ls hP hS hl
  exact lv_ldc C.1 C.2.1 C.2.2.2.2.1 (C.2.2.2.2.2.1 _ hv) d (h r hr o ho p l e s m args below meth c C H locs ls hP hS hl)
theorem v_ldc2 {G : GG} {J : MD} {pc : Nat} {lv : List (Nat × Value)} {st : List Value} {μ : Mem} {R : Type} {x : Option R} {k : R → Option Oc} {idx : Nat} {v : Int64} (d : decode J.2.1 pc = .ok (.ldc2_w idx, 3)) (hv : Cond.constantLong J.1 idx v ∈ TB) {n : Nat} (hn : pc + 3 = n) (h : V G J n lv (.long v :: st) μ x k) : V G J pc lv st μ x k := by
  subst hn
  intro r hr o ho p l e s m args below meth c C H locs ls hP hS hl
  exact lv_ldc2 C.1 C.2.1 C.2.2.2.2.1 (C.2.2.2.2.2.1 _ hv) d (h r hr o ho p l e s m args below meth c C H locs ls hP hS hl)
theorem v_iload_n {G : GG} {J : MD} {pc : Nat} {lv : List (Nat × Value)} {st : List Value} {μ : Mem} {R : Type} {x : Option R} {k : R → Option Oc} {q : Fin 4} {i : Nat} {v : Int32} (d : decode J.2.1 pc = .ok (.iload_n q, 1)) (hi : (q : Nat) = i) (j : Nat) (hj : lv[j]? = some (i, .int v)) {n : Nat} (hn : pc + 1 = n) (h : V G J n lv (.int v :: st) μ x k) : V G J pc lv (st) μ x k := by
  subst hn
  intro r hr o ho p l e s m args below meth c C H locs ls hP hS hl
  exact lv_iload_n C.1 C.2.1 d hi (lv_at hl j hj) (h r hr o ho p l e s m args below meth c C H locs ls hP hS hl)
theorem v_iload {G : GG} {J : MD} {pc : Nat} {lv : List (Nat × Value)} {st : List Value} {μ : Mem} {R : Type} {x : Option R} {k : R → Option Oc} {i : Nat} {v : Int32} (d : decode J.2.1 pc = .ok (.iload i, 2)) (j : Nat) (hj : lv[j]? = some (i, .int v)) {n : Nat} (hn : pc + 2 = n) (h : V G J n lv (.int v :: st) μ x k) : V G J pc lv (st) μ x k := by
  subst hn
  intro r hr o ho p l e s m args below meth c C H locs ls hP hS hl
  exact lv_iload C.1 C.2.1 d (lv_at hl j hj) (h r hr o ho p l e s m args below meth c C H locs ls hP hS hl)
theorem v_lload_n {G : GG} {J : MD} {pc : Nat} {lv : List (Nat × Value)} {st : List Value} {μ : Mem} {R : Type} {x : Option R} {k : R → Option Oc} {q : Fin 4} {i : Nat} {v : Int64} (d : decode J.2.1 pc = .ok (.lload_n q, 1)) (hi : (q : Nat) = i) (j : Nat) (hj : lv[j]? = some (i, .long v)) {n : Nat} (hn : pc + 1 = n) (h : V G J n lv (.long v :: st) μ x k) : V G J pc lv (st) μ x k := by
  subst hn
  intro r hr o ho p l e s m args below meth c C H locs ls hP hS hl
  exact lv_lload_n C.1 C.2.1 d hi (lv_at hl j hj) (h r hr o ho p l e s m args below meth c C H locs ls hP hS hl)
theorem v_lload {G : GG} {J : MD} {pc : Nat} {lv : List (Nat × Value)} {st : List Value} {μ : Mem} {R : Type} {x : Option R} {k : R → Option Oc} {i : Nat} {v : Int64} (d : decode J.2.1 pc = .ok (.lload i, 2)) (j : Nat) (hj : lv[j]? = some (i, .long v)) {n : Nat} (hn : pc + 2 = n) (h : V G J n lv (.long v :: st) μ x k) : V G J pc lv (st) μ x k := by
  subst hn
  intro r hr o ho p l e s m args below meth c C H locs ls hP hS hl
  exact lv_lload C.1 C.2.1 d (lv_at hl j hj) (h r hr o ho p l e s m args below meth c C H locs ls hP hS hl)
theorem v_aload_n {G : GG} {J : MD} {pc : Nat} {lv : List (Nat × Value)} {st : List Value} {μ : Mem} {R : Type} {x : Option R} {k : R → Option Oc} {q : Fin 4} {i : Nat} {v : Nat} (d : decode J.2.1 pc = .ok (.aload_n q, 1)) (hi : (q : Nat) = i) (j : Nat) (hj : lv[j]? = some (i, .ref v)) {n : Nat} (hn : pc + 1 = n) (h : V G J n lv (.ref v :: st) μ x k) : V G J pc lv (st) μ x k := by
  subst hn
  intro r hr o ho p l e s m args below meth c C H locs ls hP hS hl
  exact lv_aload_n C.1 C.2.1 d hi (lv_at hl j hj) (h r hr o ho p l e s m args below meth c C H locs ls hP hS hl)
theorem v_aload {G : GG} {J : MD} {pc : Nat} {lv : List (Nat × Value)} {st : List Value} {μ : Mem} {R : Type} {x : Option R} {k : R → Option Oc} {i : Nat} {v : Nat} (d : decode J.2.1 pc = .ok (.aload i, 2)) (j : Nat) (hj : lv[j]? = some (i, .ref v)) {n : Nat} (hn : pc + 2 = n) (h : V G J n lv (.ref v :: st) μ x k) : V G J pc lv (st) μ x k := by
  subst hn
  intro r hr o ho p l e s m args below meth c C H locs ls hP hS hl
  exact lv_aload C.1 C.2.1 d (lv_at hl j hj) (h r hr o ho p l e s m args below meth c C H locs ls hP hS hl)
theorem v_istore_n {G : GG} {J : MD} {pc : Nat} {lv : List (Nat × Value)} {st : List Value} {μ : Mem} {R : Type} {x : Option R} {k : R → Option Oc} {q : Fin 4} {i : Nat} {v : Int32} (lv' : List (Nat × Value)) (d : decode J.2.1 pc = .ok (.istore_n q, 1)) (hi : (q : Nat) = i) (hb : i < J.2.2.1) (hl' : (i, Value.int v) :: lv.filter (fun q => !(q.1 == i) && !(q.1 + 1 == i && q.2.category == 2)) = lv') {n : Nat} (hn : pc + 1 = n) (h : V G J n lv' st μ x k) : V G J pc lv (.int v :: st) μ x k := by
  subst hn
  intro r hr o ho p l e s m args below meth c C H locs ls hP hS hl
  exact lv_istore_n C.1 C.2.1 d hi hl hb hl' (fun ls hl => h r hr o ho p l e s m args below meth c C H locs ls hP hS hl)
theorem v_istore {G : GG} {J : MD} {pc : Nat} {lv : List (Nat × Value)} {st : List Value} {μ : Mem} {R : Type} {x : Option R} {k : R → Option Oc} {i : Nat} {v : Int32} (lv' : List (Nat × Value)) (d : decode J.2.1 pc = .ok (.istore i, 2)) (hb : i < J.2.2.1) (hl' : (i, Value.int v) :: lv.filter (fun q => !(q.1 == i) && !(q.1 + 1 == i && q.2.category == 2)) = lv') {n : Nat} (hn : pc + 2 = n) (h : V G J n lv' st μ x k) : V G J pc lv (.int v :: st) μ x k := by
  subst hn
  intro r hr o ho p l e s m args below meth c C H locs ls hP hS hl
  exact lv_istore C.1 C.2.1 d hl hb hl' (fun ls hl => h r hr o ho p l e s m args below meth c C H locs ls hP hS hl)
theorem v_lstore_n {G : GG} {J : MD} {pc : Nat} {lv : List (Nat × Value)} {st : List Value} {μ : Mem} {R : Type} {x : Option R} {k : R → Option Oc} {q : Fin 4} {i : Nat} {v : Int64} (lv' : List (Nat × Value)) (d : decode J.2.1 pc = .ok (.lstore_n q, 1)) (hi : (q : Nat) = i) (hb : i + 1 < J.2.2.1) (hl' : (i, Value.long v) :: lv.filter (fun q => !(q.1 == i) && (!(q.1 == i + 1) && !(q.1 + 1 == i && q.2.category == 2))) = lv') {n : Nat} (hn : pc + 1 = n) (h : V G J n lv' st μ x k) : V G J pc lv (.long v :: st) μ x k := by
  subst hn
  intro r hr o ho p l e s m args below meth c C H locs ls hP hS hl
  exact lv_lstore_n C.1 C.2.1 d hi hl hb hl' (fun ls hl => h r hr o ho p l e s m args below meth c C H locs ls hP hS hl)
theorem v_lstore {G : GG} {J : MD} {pc : Nat} {lv : List (Nat × Value)} {st : List Value} {μ : Mem} {R : Type} {x : Option R} {k : R → Option Oc} {i : Nat} {v : Int64} (lv' : List (Nat × Value)) (d : decode J.2.1 pc = .ok (.lstore i, 2)) (hb : i + 1 < J.2.2.1) (hl' : (i, Value.long v) :: lv.filter (fun q => !(q.1 == i) && (!(q.1 == i + 1) && !(q.1 + 1 == i && q.2.category == 2))) = lv') {n : Nat} (hn : pc + 2 = n) (h : V G J n lv' st μ x k) : V G J pc lv (.long v :: st) μ x k := by
  subst hn
  intro r hr o ho p l e s m args below meth c C H locs ls hP hS hl
  exact lv_lstore C.1 C.2.1 d hl hb hl' (fun ls hl => h r hr o ho p l e s m args below meth c C H locs ls hP hS hl)
theorem v_astore_n {G : GG} {J : MD} {pc : Nat} {lv : List (Nat × Value)} {st : List Value} {μ : Mem} {R : Type} {x : Option R} {k : R → Option Oc} {q : Fin 4} {i : Nat} {v : Nat} (lv' : List (Nat × Value)) (d : decode J.2.1 pc = .ok (.astore_n q, 1)) (hi : (q : Nat) = i) (hb : i < J.2.2.1) (hl' : (i, Value.ref v) :: lv.filter (fun q => !(q.1 == i) && !(q.1 + 1 == i && q.2.category == 2)) = lv') {n : Nat} (hn : pc + 1 = n) (h : V G J n lv' st μ x k) : V G J pc lv (.ref v :: st) μ x k := by
  subst hn
  intro r hr o ho p l e s m args below meth c C H locs ls hP hS hl
  exact lv_astore_n C.1 C.2.1 d hi hl hb hl' (fun ls hl => h r hr o ho p l e s m args below meth c C H locs ls hP hS hl)
theorem v_astore {G : GG} {J : MD} {pc : Nat} {lv : List (Nat × Value)} {st : List Value} {μ : Mem} {R : Type} {x : Option R} {k : R → Option Oc} {i : Nat} {v : Nat} (lv' : List (Nat × Value)) (d : decode J.2.1 pc = .ok (.astore i, 2)) (hb : i < J.2.2.1) (hl' : (i, Value.ref v) :: lv.filter (fun q => !(q.1 == i) && !(q.1 + 1 == i && q.2.category == 2)) = lv') {n : Nat} (hn : pc + 2 = n) (h : V G J n lv' st μ x k) : V G J pc lv (.ref v :: st) μ x k := by
  subst hn
  intro r hr o ho p l e s m args below meth c C H locs ls hP hS hl
  exact lv_astore C.1 C.2.1 d hl hb hl' (fun ls hl => h r hr o ho p l e s m args below meth c C H locs ls hP hS hl)
theorem v_iinc {G : GG} {J : MD} {pc : Nat} {lv : List (Nat × Value)} {st : List Value} {μ : Mem} {R : Type} {k : R → Option Oc} {i : Nat} {q : Int} {z w : Int32} {f : Int32 → Option R} (lv' : Int32 → List (Nat × Value)) (d : decode J.2.1 pc = .ok (.iinc i q, 3)) (j : Nat) (hj : lv[j]? = some (i, .int z)) (hw : Int32.ofInt q = w) (hb : i < J.2.2.1) (hl' : ∀ v, (i, Value.int v) :: lv.filter (fun q => !(q.1 == i) && !(q.1 + 1 == i && q.2.category == 2)) = lv' v) {n : Nat} (hn : pc + 3 = n) (h : ∀ v, V G J n (lv' v) st μ (f v) k) : V G J pc lv st μ (lt (z + w) f) k := by
  subst hn
  subst hw
  intro r hr o ho p l e s m args below meth c C H locs ls hP hS hl
  exact lv_iinc (v := z + Int32.ofInt q) C.1 C.2.1 d hl hj rfl hb (hl' _) (fun ls hl => h _ r hr o ho p l e s m args below meth c C H locs ls hP hS hl)
theorem v_iadd {G : GG} {J : MD} {pc : Nat} {lv : List (Nat × Value)} {st : List Value} {μ : Mem} {R : Type} {x : Option R} {k : R → Option Oc} {a b : Int32} (d : decode J.2.1 pc = .ok (.iadd, 1)) {n : Nat} (hn : pc + 1 = n) (h : V G J n lv (.int (a + b) :: st) μ x k) : V G J pc lv (.int b :: .int a :: st) μ x k := by
  subst hn
  intro r hr o ho p l e s m args below meth c C H locs ls hP hS hl
  exact lv_iadd C.1 C.2.1 d  (h r hr o ho p l e s m args below meth c C H locs ls hP hS hl)
theorem v_isub {G : GG} {J : MD} {pc : Nat} {lv : List (Nat × Value)} {st : List Value} {μ : Mem} {R : Type} {x : Option R} {k : R → Option Oc} {a b : Int32} (d : decode J.2.1 pc = .ok (.isub, 1)) {n : Nat} (hn : pc + 1 = n) (h : V G J n lv (.int (a - b) :: st) μ x k) : V G J pc lv (.int b :: .int a :: st) μ x k := by
  subst hn
  intro r hr o ho p l e s m args below meth c C H locs ls hP hS hl
  exact lv_isub C.1 C.2.1 d  (h r hr o ho p l e s m args below meth c C H locs ls hP hS hl)
theorem v_imul {G : GG} {J : MD} {pc : Nat} {lv : List (Nat × Value)} {st : List Value} {μ : Mem} {R : Type} {x : Option R} {k : R → Option Oc} {a b : Int32} (d : decode J.2.1 pc = .ok (.imul, 1)) {n : Nat} (hn : pc + 1 = n) (h : V G J n lv (.int (a * b) :: st) μ x k) : V G J pc lv (.int b :: .int a :: st) μ x k := by
  subst hn
  intro r hr o ho p l e s m args below meth c C H locs ls hP hS hl
  exact lv_imul C.1 C.2.1 d  (h r hr o ho p l e s m args below meth c C H locs ls hP hS hl)
theorem v_iand {G : GG} {J : MD} {pc : Nat} {lv : List (Nat × Value)} {st : List Value} {μ : Mem} {R : Type} {x : Option R} {k : R → Option Oc} {a b : Int32} (d : decode J.2.1 pc = .ok (.iand, 1)) {n : Nat} (hn : pc + 1 = n) (h : V G J n lv (.int (a &&& b) :: st) μ x k) : V G J pc lv (.int b :: .int a :: st) μ x k := by
  subst hn
  intro r hr o ho p l e s m args below meth c C H locs ls hP hS hl
  exact lv_iand C.1 C.2.1 d  (h r hr o ho p l e s m args below meth c C H locs ls hP hS hl)
theorem v_ior {G : GG} {J : MD} {pc : Nat} {lv : List (Nat × Value)} {st : List Value} {μ : Mem} {R : Type} {x : Option R} {k : R → Option Oc} {a b : Int32} (d : decode J.2.1 pc = .ok (.ior, 1)) {n : Nat} (hn : pc + 1 = n) (h : V G J n lv (.int (a ||| b) :: st) μ x k) : V G J pc lv (.int b :: .int a :: st) μ x k := by
  subst hn
  intro r hr o ho p l e s m args below meth c C H locs ls hP hS hl
  exact lv_ior C.1 C.2.1 d  (h r hr o ho p l e s m args below meth c C H locs ls hP hS hl)
theorem v_ishl {G : GG} {J : MD} {pc : Nat} {lv : List (Nat × Value)} {st : List Value} {μ : Mem} {R : Type} {x : Option R} {k : R → Option Oc} {a b : Int32} (d : decode J.2.1 pc = .ok (.ishl, 1)) {n : Nat} (hn : pc + 1 = n) (h : V G J n lv (.int (a <<< (b &&& 31)) :: st) μ x k) : V G J pc lv (.int b :: .int a :: st) μ x k := by
  subst hn
  intro r hr o ho p l e s m args below meth c C H locs ls hP hS hl
  exact lv_ishl C.1 C.2.1 d  (h r hr o ho p l e s m args below meth c C H locs ls hP hS hl)
theorem v_ineg {G : GG} {J : MD} {pc : Nat} {lv : List (Nat × Value)} {st : List Value} {μ : Mem} {R : Type} {x : Option R} {k : R → Option Oc} {a : Int32} (d : decode J.2.1 pc = .ok (.ineg, 1)) {n : Nat} (hn : pc + 1 = n) (h : V G J n lv (.int (-a) :: st) μ x k) : V G J pc lv (.int a :: st) μ x k := by
  subst hn
  intro r hr o ho p l e s m args below meth c C H locs ls hP hS hl
  exact lv_ineg C.1 C.2.1 d  (h r hr o ho p l e s m args below meth c C H locs ls hP hS hl)
theorem v_i2l {G : GG} {J : MD} {pc : Nat} {lv : List (Nat × Value)} {st : List Value} {μ : Mem} {R : Type} {x : Option R} {k : R → Option Oc} {a : Int32} (d : decode J.2.1 pc = .ok (.i2l, 1)) {n : Nat} (hn : pc + 1 = n) (h : V G J n lv (.long (a.toInt64) :: st) μ x k) : V G J pc lv (.int a :: st) μ x k := by
  subst hn
  intro r hr o ho p l e s m args below meth c C H locs ls hP hS hl
  exact lv_i2l C.1 C.2.1 d rfl (h r hr o ho p l e s m args below meth c C H locs ls hP hS hl)
theorem v_i2b {G : GG} {J : MD} {pc : Nat} {lv : List (Nat × Value)} {st : List Value} {μ : Mem} {R : Type} {x : Option R} {k : R → Option Oc} {a : Int32} (d : decode J.2.1 pc = .ok (.i2b, 1)) {n : Nat} (hn : pc + 1 = n) (h : V G J n lv (.int (a.toInt8.toInt32) :: st) μ x k) : V G J pc lv (.int a :: st) μ x k := by
  subst hn
  intro r hr o ho p l e s m args below meth c C H locs ls hP hS hl
  exact lv_i2b C.1 C.2.1 d rfl (h r hr o ho p l e s m args below meth c C H locs ls hP hS hl)
theorem v_i2s {G : GG} {J : MD} {pc : Nat} {lv : List (Nat × Value)} {st : List Value} {μ : Mem} {R : Type} {x : Option R} {k : R → Option Oc} {a : Int32} (d : decode J.2.1 pc = .ok (.i2s, 1)) {n : Nat} (hn : pc + 1 = n) (h : V G J n lv (.int (a.toInt16.toInt32) :: st) μ x k) : V G J pc lv (.int a :: st) μ x k := by
  subst hn
  intro r hr o ho p l e s m args below meth c C H locs ls hP hS hl
  exact lv_i2s C.1 C.2.1 d rfl (h r hr o ho p l e s m args below meth c C H locs ls hP hS hl)
theorem v_lcmp {G : GG} {J : MD} {pc : Nat} {lv : List (Nat × Value)} {st : List Value} {μ : Mem} {R : Type} {x : Option R} {k : R → Option Oc} {a b : Int64} (d : decode J.2.1 pc = .ok (.lcmp, 1)) {n : Nat} (hn : pc + 1 = n) (h : V G J n lv (.int (lg_cmp a b) :: st) μ x k) : V G J pc lv (.long b :: .long a :: st) μ x k := by
  subst hn
  intro r hr o ho p l e s m args below meth c C H locs ls hP hS hl
  exact W.lcmp C.1 C.2.1 d  (h r hr o ho p l e s m args below meth c C H locs ls hP hS hl)
theorem v_dup {G : GG} {J : MD} {pc : Nat} {lv : List (Nat × Value)} {st : List Value} {μ : Mem} {R : Type} {x : Option R} {k : R → Option Oc} {a : Value} (d : decode J.2.1 pc = .ok (.dup, 1)) (ha : a.category = 1) {n : Nat} (hn : pc + 1 = n) (h : V G J n lv (a :: a :: st) μ x k) : V G J pc lv (a :: st) μ x k := by
  subst hn
  intro r hr o ho p l e s m args below meth c C H locs ls hP hS hl
  exact lv_dup C.1 C.2.1 d ha (h r hr o ho p l e s m args below meth c C H locs ls hP hS hl)
theorem v_pop {G : GG} {J : MD} {pc : Nat} {lv : List (Nat × Value)} {st : List Value} {μ : Mem} {R : Type} {x : Option R} {k : R → Option Oc} {a : Value} (d : decode J.2.1 pc = .ok (.pop, 1)) (ha : a.category = 1) {n : Nat} (hn : pc + 1 = n) (h : V G J n lv (st) μ x k) : V G J pc lv (a :: st) μ x k := by
  subst hn
  intro r hr o ho p l e s m args below meth c C H locs ls hP hS hl
  exact lv_pop C.1 C.2.1 d ha (h r hr o ho p l e s m args below meth c C H locs ls hP hS hl)
theorem v_dup2 {G : GG} {J : MD} {pc : Nat} {lv : List (Nat × Value)} {st : List Value} {μ : Mem} {R : Type} {x : Option R} {k : R → Option Oc} {a b : Value} (d : decode J.2.1 pc = .ok (.dup2, 1)) (ha : a.category = 1) (hb : b.category = 1) {n : Nat} (hn : pc + 1 = n) (h : V G J n lv (a :: b :: a :: b :: st) μ x k) : V G J pc lv (a :: b :: st) μ x k := by
  subst hn
  intro r hr o ho p l e s m args below meth c C H locs ls hP hS hl
  exact lv_dup2_11 C.1 C.2.1 d ha hb (h r hr o ho p l e s m args below meth c C H locs ls hP hS hl)
theorem v_idiv {G : GG} {J : MD} {pc : Nat} {lv : List (Nat × Value)} {st : List Value} {μ : Mem} {R : Type} {x : Option R} {k : R → Option Oc} {a b : Int32} (d : decode J.2.1 pc = .ok (.idiv, 1)) {n : Nat} (hn : pc + 1 = n) (h : V G J n lv (.int (a / b) :: st) μ x k) : V G J pc lv (.int b :: .int a :: st) μ (ck (decide (¬ b = 0)) x) k := by
  subst hn
  intro r hr o ho p l e s m args below meth c C H locs ls hP hS hl
  by_cases hz : b = 0
  · rw [ck, if_neg (by simp [hz])] at hr; cases hr
  · rw [ck, if_pos (by simp [hz])] at hr
    exact lv_idiv C.1 C.2.1 d hz (h r hr o ho p l e s m args below meth c C H locs ls hP hS hl)
theorem v_irem {G : GG} {J : MD} {pc : Nat} {lv : List (Nat × Value)} {st : List Value} {μ : Mem} {R : Type} {x : Option R} {k : R → Option Oc} {a b : Int32} (d : decode J.2.1 pc = .ok (.irem, 1)) {n : Nat} (hn : pc + 1 = n) (h : V G J n lv (.int (a - a / b * b) :: st) μ x k) : V G J pc lv (.int b :: .int a :: st) μ (ck (decide (¬ b = 0)) x) k := by
  subst hn
  intro r hr o ho p l e s m args below meth c C H locs ls hP hS hl
  by_cases hz : b = 0
  · rw [ck, if_neg (by simp [hz])] at hr; cases hr
  · rw [ck, if_pos (by simp [hz])] at hr
    exact lv_irem C.1 C.2.1 d hz (h r hr o ho p l e s m args below meth c C H locs ls hP hS hl)
theorem v_ldiv {G : GG} {J : MD} {pc : Nat} {lv : List (Nat × Value)} {st : List Value} {μ : Mem} {R : Type} {x : Option R} {k : R → Option Oc} {a b : Int64} (d : decode J.2.1 pc = .ok (.ldiv, 1)) {n : Nat} (hn : pc + 1 = n) (h : V G J n lv (.long (a / b) :: st) μ x k) : V G J pc lv (.long b :: .long a :: st) μ (ck (decide (¬ b = 0)) x) k := by
  subst hn
  intro r hr o ho p l e s m args below meth c C H locs ls hP hS hl
  by_cases hz : b = 0
  · rw [ck, if_neg (by simp [hz])] at hr; cases hr
  · rw [ck, if_pos (by simp [hz])] at hr
    exact lv_ldiv C.1 C.2.1 d hz (h r hr o ho p l e s m args below meth c C H locs ls hP hS hl)
theorem v_lrem {G : GG} {J : MD} {pc : Nat} {lv : List (Nat × Value)} {st : List Value} {μ : Mem} {R : Type} {x : Option R} {k : R → Option Oc} {a b : Int64} (d : decode J.2.1 pc = .ok (.lrem, 1)) {n : Nat} (hn : pc + 1 = n) (h : V G J n lv (.long (a - a / b * b) :: st) μ x k) : V G J pc lv (.long b :: .long a :: st) μ (ck (decide (¬ b = 0)) x) k := by
  subst hn
  intro r hr o ho p l e s m args below meth c C H locs ls hP hS hl
  by_cases hz : b = 0
  · rw [ck, if_neg (by simp [hz])] at hr; cases hr
  · rw [ck, if_pos (by simp [hz])] at hr
    exact lv_lrem C.1 C.2.1 d hz (h r hr o ho p l e s m args below meth c C H locs ls hP hS hl)
theorem v_if_eq {G : GG} {J : MD} {pc : Nat} {lv : List (Nat × Value)} {st : List Value} {μ : Mem} {R : Type} {k : R → Option Oc} {A B : Option R} {a : Int32} {off : Int} {tgt n : Nat} (d : decode J.2.1 pc = .ok (.ifCond .eq off, 3)) (ht : (pc : Int) + off = (tgt : Int)) (hn : pc + 3 = n) (h1 : V G J tgt lv st μ A k) (h2 : V G J n lv st μ B k) : V G J pc lv (.int a :: st) μ (if a = 0 then A else B) k := by
  subst hn
  intro r hr o ho p l e s m args below meth c C H locs ls hP hS hl
  exact lv_if_eq C.1 C.2.1 d ht (fun q => by rw [if_pos q] at hr; exact h1 r hr o ho p l e s m args below meth c C H locs ls hP hS hl) (fun q => by rw [if_neg q] at hr; exact h2 r hr o ho p l e s m args below meth c C H locs ls hP hS hl)
theorem v_icmp_eq {G : GG} {J : MD} {pc : Nat} {lv : List (Nat × Value)} {st : List Value} {μ : Mem} {R : Type} {k : R → Option Oc} {A B : Option R} {a b : Int32} {off : Int} {tgt n : Nat} (d : decode J.2.1 pc = .ok (.if_icmp .eq off, 3)) (ht : (pc : Int) + off = (tgt : Int)) (hn : pc + 3 = n) (h1 : V G J tgt lv st μ A k) (h2 : V G J n lv st μ B k) : V G J pc lv (.int b :: .int a :: st) μ (if a = b then A else B) k := by
  subst hn
  intro r hr o ho p l e s m args below meth c C H locs ls hP hS hl
  exact lv_icmp_eq C.1 C.2.1 d ht (fun q => by rw [if_pos q] at hr; exact h1 r hr o ho p l e s m args below meth c C H locs ls hP hS hl) (fun q => by rw [if_neg q] at hr; exact h2 r hr o ho p l e s m args below meth c C H locs ls hP hS hl)
theorem v_if_ne {G : GG} {J : MD} {pc : Nat} {lv : List (Nat × Value)} {st : List Value} {μ : Mem} {R : Type} {k : R → Option Oc} {A B : Option R} {a : Int32} {off : Int} {tgt n : Nat} (d : decode J.2.1 pc = .ok (.ifCond .ne off, 3)) (ht : (pc : Int) + off = (tgt : Int)) (hn : pc + 3 = n) (h1 : V G J n lv st μ A k) (h2 : V G J tgt lv st μ B k) : V G J pc lv (.int a :: st) μ (if a = 0 then A else B) k := by
  subst hn
  intro r hr o ho p l e s m args below meth c C H locs ls hP hS hl
  exact lv_if_ne C.1 C.2.1 d ht (fun q => by rw [if_neg q] at hr; exact h2 r hr o ho p l e s m args below meth c C H locs ls hP hS hl) (fun q => by rw [if_pos q] at hr; exact h1 r hr o ho p l e s m args below meth c C H locs ls hP hS hl)
theorem v_icmp_ne {G : GG} {J : MD} {pc : Nat} {lv : List (Nat × Value)} {st : List Value} {μ : Mem} {R : Type} {k : R → Option Oc} {A B : Option R} {a b : Int32} {off : Int} {tgt n : Nat} (d : decode J.2.1 pc = .ok (.if_icmp .ne off, 3)) (ht : (pc : Int) + off = (tgt : Int)) (hn : pc + 3 = n) (h1 : V G J n lv st μ A k) (h2 : V G J tgt lv st μ B k) : V G J pc lv (.int b :: .int a :: st) μ (if a = b then A else B) k := by
  subst hn
  intro r hr o ho p l e s m args below meth c C H locs ls hP hS hl
  exact lv_icmp_ne C.1 C.2.1 d ht (fun q => by rw [if_neg q] at hr; exact h2 r hr o ho p l e s m args below meth c C H locs ls hP hS hl) (fun q => by rw [if_pos q] at hr; exact h1 r hr o ho p l e s m args below meth c C H locs ls hP hS hl)
theorem v_if_lt {G : GG} {J : MD} {pc : Nat} {lv : List (Nat × Value)} {st : List Value} {μ : Mem} {R : Type} {k : R → Option Oc} {A B : Option R} {a : Int32} {off : Int} {tgt n : Nat} (d : decode J.2.1 pc = .ok (.ifCond .lt off, 3)) (ht : (pc : Int) + off = (tgt : Int)) (hn : pc + 3 = n) (h1 : V G J tgt lv st μ A k) (h2 : V G J n lv st μ B k) : V G J pc lv (.int a :: st) μ (if a < 0 then A else B) k := by
  subst hn
  intro r hr o ho p l e s m args below meth c C H locs ls hP hS hl
  exact lv_if_lt C.1 C.2.1 d ht (fun q => by rw [if_pos q] at hr; exact h1 r hr o ho p l e s m args below meth c C H locs ls hP hS hl) (fun q => by rw [if_neg q] at hr; exact h2 r hr o ho p l e s m args below meth c C H locs ls hP hS hl)
theorem v_icmp_lt {G : GG} {J : MD} {pc : Nat} {lv : List (Nat × Value)} {st : List Value} {μ : Mem} {R : Type} {k : R → Option Oc} {A B : Option R} {a b : Int32} {off : Int} {tgt n : Nat} (d : decode J.2.1 pc = .ok (.if_icmp .lt off, 3)) (ht : (pc : Int) + off = (tgt : Int)) (hn : pc + 3 = n) (h1 : V G J tgt lv st μ A k) (h2 : V G J n lv st μ B k) : V G J pc lv (.int b :: .int a :: st) μ (if a < b then A else B) k := by
  subst hn
  intro r hr o ho p l e s m args below meth c C H locs ls hP hS hl
  exact lv_icmp_lt C.1 C.2.1 d ht (fun q => by rw [if_pos q] at hr; exact h1 r hr o ho p l e s m args below meth c C H locs ls hP hS hl) (fun q => by rw [if_neg q] at hr; exact h2 r hr o ho p l e s m args below meth c C H locs ls hP hS hl)
theorem v_if_ge {G : GG} {J : MD} {pc : Nat} {lv : List (Nat × Value)} {st : List Value} {μ : Mem} {R : Type} {k : R → Option Oc} {A B : Option R} {a : Int32} {off : Int} {tgt n : Nat} (d : decode J.2.1 pc = .ok (.ifCond .ge off, 3)) (ht : (pc : Int) + off = (tgt : Int)) (hn : pc + 3 = n) (h1 : V G J tgt lv st μ A k) (h2 : V G J n lv st μ B k) : V G J pc lv (.int a :: st) μ (if 0 ≤ a then A else B) k := by
  subst hn
  intro r hr o ho p l e s m args below meth c C H locs ls hP hS hl
  exact lv_if_ge C.1 C.2.1 d ht (fun q => by rw [if_pos q] at hr; exact h1 r hr o ho p l e s m args below meth c C H locs ls hP hS hl) (fun q => by rw [if_neg q] at hr; exact h2 r hr o ho p l e s m args below meth c C H locs ls hP hS hl)
theorem v_icmp_ge {G : GG} {J : MD} {pc : Nat} {lv : List (Nat × Value)} {st : List Value} {μ : Mem} {R : Type} {k : R → Option Oc} {A B : Option R} {a b : Int32} {off : Int} {tgt n : Nat} (d : decode J.2.1 pc = .ok (.if_icmp .ge off, 3)) (ht : (pc : Int) + off = (tgt : Int)) (hn : pc + 3 = n) (h1 : V G J tgt lv st μ A k) (h2 : V G J n lv st μ B k) : V G J pc lv (.int b :: .int a :: st) μ (if b ≤ a then A else B) k := by
  subst hn
  intro r hr o ho p l e s m args below meth c C H locs ls hP hS hl
  exact lv_icmp_ge C.1 C.2.1 d ht (fun q => by rw [if_pos q] at hr; exact h1 r hr o ho p l e s m args below meth c C H locs ls hP hS hl) (fun q => by rw [if_neg q] at hr; exact h2 r hr o ho p l e s m args below meth c C H locs ls hP hS hl)
theorem v_if_gt {G : GG} {J : MD} {pc : Nat} {lv : List (Nat × Value)} {st : List Value} {μ : Mem} {R : Type} {k : R → Option Oc} {A B : Option R} {a : Int32} {off : Int} {tgt n : Nat} (d : decode J.2.1 pc = .ok (.ifCond .gt off, 3)) (ht : (pc : Int) + off = (tgt : Int)) (hn : pc + 3 = n) (h1 : V G J tgt lv st μ A k) (h2 : V G J n lv st μ B k) : V G J pc lv (.int a :: st) μ (if 0 < a then A else B) k := by
  subst hn
  intro r hr o ho p l e s m args below meth c C H locs ls hP hS hl
  exact lv_if_gt C.1 C.2.1 d ht (fun q => by rw [if_pos q] at hr; exact h1 r hr o ho p l e s m args below meth c C H locs ls hP hS hl) (fun q => by rw [if_neg q] at hr; exact h2 r hr o ho p l e s m args below meth c C H locs ls hP hS hl)
theorem v_icmp_gt {G : GG} {J : MD} {pc : Nat} {lv : List (Nat × Value)} {st : List Value} {μ : Mem} {R : Type} {k : R → Option Oc} {A B : Option R} {a b : Int32} {off : Int} {tgt n : Nat} (d : decode J.2.1 pc = .ok (.if_icmp .gt off, 3)) (ht : (pc : Int) + off = (tgt : Int)) (hn : pc + 3 = n) (h1 : V G J tgt lv st μ A k) (h2 : V G J n lv st μ B k) : V G J pc lv (.int b :: .int a :: st) μ (if b < a then A else B) k := by
  subst hn
  intro r hr o ho p l e s m args below meth c C H locs ls hP hS hl
  exact lv_icmp_gt C.1 C.2.1 d ht (fun q => by rw [if_pos q] at hr; exact h1 r hr o ho p l e s m args below meth c C H locs ls hP hS hl) (fun q => by rw [if_neg q] at hr; exact h2 r hr o ho p l e s m args below meth c C H locs ls hP hS hl)
theorem v_if_le {G : GG} {J : MD} {pc : Nat} {lv : List (Nat × Value)} {st : List Value} {μ : Mem} {R : Type} {k : R → Option Oc} {A B : Option R} {a : Int32} {off : Int} {tgt n : Nat} (d : decode J.2.1 pc = .ok (.ifCond .le off, 3)) (ht : (pc : Int) + off = (tgt : Int)) (hn : pc + 3 = n) (h1 : V G J tgt lv st μ A k) (h2 : V G J n lv st μ B k) : V G J pc lv (.int a :: st) μ (if a ≤ 0 then A else B) k := by
  subst hn
  intro r hr o ho p l e s m args below meth c C H locs ls hP hS hl
  exact lv_if_le C.1 C.2.1 d ht (fun q => by rw [if_pos q] at hr; exact h1 r hr o ho p l e s m args below meth c C H locs ls hP hS hl) (fun q => by rw [if_neg q] at hr; exact h2 r hr o ho p l e s m args below meth c C H locs ls hP hS hl)
theorem v_icmp_le {G : GG} {J : MD} {pc : Nat} {lv : List (Nat × Value)} {st : List Value} {μ : Mem} {R : Type} {k : R → Option Oc} {A B : Option R} {a b : Int32} {off : Int} {tgt n : Nat} (d : decode J.2.1 pc = .ok (.if_icmp .le off, 3)) (ht : (pc : Int) + off = (tgt : Int)) (hn : pc + 3 = n) (h1 : V G J tgt lv st μ A k) (h2 : V G J n lv st μ B k) : V G J pc lv (.int b :: .int a :: st) μ (if a ≤ b then A else B) k := by
  subst hn
  intro r hr o ho p l e s m args below meth c C H locs ls hP hS hl
  exact lv_icmp_le C.1 C.2.1 d ht (fun q => by rw [if_pos q] at hr; exact h1 r hr o ho p l e s m args below meth c C H locs ls hP hS hl) (fun q => by rw [if_neg q] at hr; exact h2 r hr o ho p l e s m args below meth c C H locs ls hP hS hl)
theorem v_goto {G : GG} {J : MD} {pc : Nat} {lv : List (Nat × Value)} {st : List Value} {μ : Mem} {R : Type} {x : Option R} {k : R → Option Oc} {off : Int} {tgt : Nat} (d : decode J.2.1 pc = .ok (.goto off, 3)) (ht : (pc : Int) + off = (tgt : Int)) (h : V G J tgt lv st μ x k) : V G J pc lv st μ x k := by
  intro r hr o ho p l e s m args below meth c C H locs ls hP hS hl
  exact lv_goto C.1 C.2.1 d ht (h r hr o ho p l e s m args below meth c C H locs ls hP hS hl)
theorem v_swif {G : GG} {J : MD} {pc : Nat} {lv : List (Nat × Value)} {st : List Value} {μ : Mem} {R : Type} {k : R → Option Oc} {A B : Option R} {z a : Int32} (h1 : V G J pc lv (.int a :: st) μ A k) (h2 : ¬ z = a → V G J pc lv (.int z :: st) μ B k) : V G J pc lv (.int z :: st) μ (if z = a then A else B) k := by
  by_cases h : z = a
  · subst h; rw [if_pos rfl]; exact h1
  · rw [if_neg h]; exact h2 h
theorem v_tblI {G : GG} {J : MD} {pc : Nat} {lv : List (Nat × Value)} {st : List Value} {μ : Mem} {R : Type} {x : Option R} {k : R → Option Oc} {dflt lo hi : Int} {offs : Array Int} {len : Nat} {a : Int32} {off : Int} {tgt : Nat} (d : decode J.2.1 pc = .ok (.tableswitch dflt lo hi offs, len)) (h1 : ¬ a.toInt < lo) (h2 : ¬ hi < a.toInt) (hof : offs[(a.toInt - lo).toNat]? = some off) (ht : (pc : Int) + off = (tgt : Int)) (h : V G J tgt lv st μ x k) : V G J pc lv (.int a :: st) μ x k := by
  intro r hr o ho p l e s m args below meth c C H locs ls hP hS hl
  exact lv_tableIn C.1 C.2.1 d h1 h2 hof ht (h r hr o ho p l e s m args below meth c C H locs ls hP hS hl)
theorem v_tblO {G : GG} {J : MD} {pc : Nat} {lv : List (Nat × Value)} {st : List Value} {μ : Mem} {R : Type} {x : Option R} {k : R → Option Oc} {dflt lo hi : Int} {offs : Array Int} {len : Nat} {a : Int32} {tgt : Nat} (d : decode J.2.1 pc = .ok (.tableswitch dflt lo hi offs, len)) (h1 : a.toInt < lo ∨ hi < a.toInt) (ht : (pc : Int) + dflt = (tgt : Int)) (h : V G J tgt lv st μ x k) : V G J pc lv (.int a :: st) μ x k := by
  intro r hr o ho p l e s m args below meth c C H locs ls hP hS hl
  exact lv_tableOut C.1 C.2.1 d h1 ht (h r hr o ho p l e s m args below meth c C H locs ls hP hS hl)
theorem v_lkp {G : GG} {J : MD} {pc : Nat} {lv : List (Nat × Value)} {st : List Value} {μ : Mem} {R : Type} {x : Option R} {k : R → Option Oc} {dflt : Int} {ps : Array (Int × Int)} {len : Nat} {a : Int32} {off : Int} {tgt : Nat} (d : decode J.2.1 pc = .ok (.lookupswitch dflt ps, len)) (hp : (ps.toList.zip (ps.toList.drop 1)).all (fun (a, next) => a.1 < next.1) = true) (hof : Op.lookupswitch.offset ps.toList dflt a.toInt = off) (ht : (pc : Int) + off = (tgt : Int)) (h : V G J tgt lv st μ x k) : V G J pc lv (.int a :: st) μ x k := by
  intro r hr o ho p l e s m args below meth c C H locs ls hP hS hl
  exact lv_lookup C.1 C.2.1 d hp hof ht (h r hr o ho p l e s m args below meth c C H locs ls hP hS hl)
theorem v_getI {G : GG} {J : MD} {pc : Nat} {lv : List (Nat × Value)} {st : List Value} {μ : Mem} {R : Type} {x : Option R} {k : R → Option Oc} {q ci i idx : Nat} {fs : List (Option Nat)} (d : decode J.2.1 pc = .ok (.getfield idx, 3)) (hc : sh[q]? = some (.inr (ci, fs))) (hf : fs[i]? = some none) (F : gFld J.1 idx ci i) {n : Nat} (hn : pc + 3 = n) (h : V G J n lv (.int (μ q i) :: st) μ x k) : V G J pc lv (.ref (G.2.1 q) :: st) μ x k := by
  subst hn
  intro r hr o ho p l e s m args below meth c C H locs ls hP hS hl
  obtain ⟨hx, hb, hml, hre, hown, hts, hlk, hK, hDD, hST, hNW⟩ := id C
  obtain ⟨Cn, T, N, ref, h1, h2, h3, h4, h5⟩ := F
  exact va_get (D := G.1) (ci := ci) (v := .int (μ q i)) (C := Cn) (T := T) (N := N) hx hb hts h3 hown hK hP q (gW_at hc) h1 i h2 (hts _ h4) (h5 s) (gF_I hf) d (h r hr o ho p l e s m args below meth c C H locs ls hP hS hl)
theorem v_getR {G : GG} {J : MD} {pc : Nat} {lv : List (Nat × Value)} {st : List Value} {μ : Mem} {R : Type} {x : Option R} {k : R → Option Oc} {q ci i idx q2 : Nat} {fs : List (Option Nat)} (d : decode J.2.1 pc = .ok (.getfield idx, 3)) (hc : sh[q]? = some (.inr (ci, fs))) (hf : fs[i]? = some (some q2)) (F : gFld J.1 idx ci i) {n : Nat} (hn : pc + 3 = n) (h : V G J n lv (.ref (G.2.1 q2) :: st) μ x k) : V G J pc lv (.ref (G.2.1 q) :: st) μ x k := by
  subst hn
  intro r hr o ho p l e s m args below meth c C H locs ls hP hS hl
  obtain ⟨hx, hb, hml, hre, hown, hts, hlk, hK, hDD, hST, hNW⟩ := id C
  obtain ⟨Cn, T, N, ref, h1, h2, h3, h4, h5⟩ := F
  exact va_get (D := G.1) (ci := ci) (v := .ref (G.2.1 q2)) (C := Cn) (T := T) (N := N) hx hb hts h3 hown hK hP q (gW_at hc) h1 i h2 (hts _ h4) (h5 s) (gF_R hf) d (h r hr o ho p l e s m args below meth c C H locs ls hP hS hl)
theorem v_put {G : GG} {J : MD} {pc : Nat} {lv : List (Nat × Value)} {st : List Value} {μ : Mem} {R : Type} {x : Option R} {k : R → Option Oc} {q ci i idx : Nat} {fs : List (Option Nat)} {ty : FieldType} {v : Int32} (d : decode J.2.1 pc = .ok (.putfield idx, 3)) (hc : sh[q]? = some (.inr (ci, fs))) (hf : fs[i]? = some none) (F : gPut J.1 idx ci i ty) (hnw : narrow ty (.int v) = .int v) (hft : fits ty (.int v) = true) {n : Nat} (hn : pc + 3 = n) (h : V G J n lv st (up μ q i v) x k) : V G J pc lv (.int v :: .ref (G.2.1 q) :: st) μ x k := by
  subst hn
  intro r hr o ho p l e s m args below meth c C H locs ls hP hS hl
  obtain ⟨hx, hb, hml, hre, hown, hts, hlk, hK, hDD, hST, hNW⟩ := id C
  obtain ⟨Cn, T, N, ref, ty0, h1, h2, h3, h4, h5, h6, h7, h8, h9⟩ := F
  refine va_put (D := G.1) (ci := ci) (v := .int v) (ty := ty) (C := Cn) (T := T) (N := N) hx hb hts h3 ty0 h6 h7 hown hK hP (gD_of hDD) hS q (gW_at hc) h1 i h2 (hts _ h4) (h5 s) h8 h9 hnw hft (by show i < (gF G μ q fs).length; rw [gF_len]; exact (List.getElem?_eq_some_iff.mp hf).1) d (fun H1 locs1 hP1 _ hS1 => ?_)
  refine h r hr o ho p l e s m args below meth c C H1 locs1 ls ?_ hS1 hl
  rw [gW_upF hc hf]
  exact hP1
theorem v_iald {G : GG} {J : MD} {pc : Nat} {lv : List (Nat × Value)} {st : List Value} {μ : Mem} {R : Type} {x : Option R} {k : R → Option Oc} {q N : Nat} {i : Int32} (d : decode J.2.1 pc = .ok (.iaload, 1)) (hc : isA q N) {n : Nat} (hn : pc + 1 = n) (h : V G J n lv (.int (μ q i.toNatClampNeg) :: st) μ x k) : V G J pc lv (.int i :: .ref (G.2.1 q) :: st) μ (ck (inb i N) x) k := by
  subst hn
  intro r hr o ho p l e s m args below meth c C H locs ls hP hS hl
  obtain ⟨hx, hb, hml, hre, hown, hts, hlk, hK, hDD, hST, hNW⟩ := id C
  by_cases hi : inb i N = true
  · rw [ck, if_pos hi] at hr
    exact va_iald hx hb hK hP q 0 (gW_at hc) rfl (inb_vp hi) d (h r hr o ho p l e s m args below meth c C H locs ls hP hS hl)
  · rw [ck, if_neg hi] at hr; cases hr
theorem v_iast {G : GG} {J : MD} {pc : Nat} {lv : List (Nat × Value)} {st : List Value} {μ : Mem} {R : Type} {x : Option R} {k : R → Option Oc} {q N : Nat} {i v : Int32} (d : decode J.2.1 pc = .ok (.iastore, 1)) (hc : isA q N) {n : Nat} (hn : pc + 1 = n) (h : V G J n lv st (up μ q i.toNatClampNeg v) x k) : V G J pc lv (.int v :: .int i :: .ref (G.2.1 q) :: st) μ (ck (inb i N) x) k := by
  subst hn
  intro r hr o ho p l e s m args below meth c C H locs ls hP hS hl
  obtain ⟨hx, hb, hml, hre, hown, hts, hlk, hK, hDD, hST, hNW⟩ := id C
  by_cases hi : inb i N = true
  · rw [ck, if_pos hi] at hr
    refine va_iast hx hb hK hP (gD_of hDD) hS q 0 (gW_at hc) rfl (inb_vp hi) d (fun H1 locs1 hP1 _ hS1 => ?_)
    refine h r hr o ho p l e s m args below meth c C H1 locs1 ls ?_ hS1 hl
    rw [gW_upA hc]
    exact hP1
  · rw [ck, if_neg hi] at hr; cases hr
theorem v_alen {G : GG} {J : MD} {pc : Nat} {lv : List (Nat × Value)} {st : List Value} {μ : Mem} {R : Type} {x : Option R} {k : R → Option Oc} {q N : Nat} {v : Int32} (d : decode J.2.1 pc = .ok (.arraylength, 1)) (hc : isA q N) (hv : Int32.ofNat N = v) {n : Nat} (hn : pc + 1 = n) (h : V G J n lv (.int v :: st) μ x k) : V G J pc lv (.ref (G.2.1 q) :: st) μ x k := by
  subst hn
  subst hv
  intro r hr o ho p l e s m args below meth c C H locs ls hP hS hl
  obtain ⟨hx, hb, hml, hre, hown, hts, hlk, hK, hDD, hST, hNW⟩ := id C
  exact va_alen hx hb hK hP q 0 (gW_at hc) rfl rfl d (h r hr o ho p l e s m args below meth c C H locs ls hP hS hl)
theorem shc_ok {i : Int32} (h : inb i 4 = true) : isO (shc i) 2 ∧ ([35, 37, 39, 41] : List Nat)[i.toNatClampNeg]? = some (shc i) := by
  have hlt : i.toNatClampNeg < 4 := Nat.not_le.mp fun q => inb_vp h (Or.inr q)
  unfold shc
  generalize i.toNatClampNeg = a at hlt
  rcases (show a = 0 ∨ a = 1 ∨ a = 2 ∨ a = 3 by omega) with rfl | rfl | rfl | rfl <;> exact ⟨rfl, rfl⟩
theorem v_aald {G : GG} {J : MD} {pc : Nat} {lv : List (Nat × Value)} {st : List Value} {μ : Mem} {R : Type} {k : R → Option Oc} {i : Int32} {f : Nat → Option R} (d : decode J.2.1 pc = .ok (.aaload, 1)) {n : Nat} (hn : pc + 1 = n) (h : ∀ q, isO q 2 → V G J n lv (.ref (G.2.1 q) :: st) μ (f q) k) : V G J pc lv (.int i :: .ref (G.2.1 1) :: st) μ (ck (inb i 4) (lt (shc i) f)) k := by
  subst hn
  intro r hr o ho p l e s m args below meth c C H locs ls hP hS hl
  obtain ⟨hx, hb, hml, hre, hown, hts, hlk, hK, hDD, hST, hNW⟩ := id C
  by_cases hi : inb i 4 = true
  · rw [ck, if_pos hi] at hr
    obtain ⟨e1, e2⟩ := shc_ok hi
    refine va_aldq hx hb hK hP 1 1 (gW_at (x := .inl (.inr [35, 37, 39, 41])) rfl) rfl (inb_vp hi) d ?_
    have hz := h (shc i) e1 r hr o ho p l e s m args below meth c C H locs ls hP hS hl
    have ez : va_rf ((([35, 37, 39, 41] : List Nat)[i.toNatClampNeg]?).map G.2.1) = .ref (G.2.1 (shc i)) := by rw [e2]; rfl
    show W p l e J.2.2.2.2 s m args below meth c H locs 0 0 _ (F0 m (pc + 1) ls (va_rf ((([35, 37, 39, 41] : List Nat)[i.toNatClampNeg]?).map G.2.1) :: st))
    rw [ez]
    exact hz
  · rw [ck, if_neg hi] at hr; cases hr
theorem v_gets {G : GG} {J : MD} {pc : Nat} {lv : List (Nat × Value)} {st : List Value} {μ : Mem} {R : Type} {x : Option R} {k : R → Option Oc} (j : Nat) {idx : Nat} (d : decode J.2.1 pc = .ok (.getstatic idx, 3)) (hj : j < 3) (hm : (J.1, idx, j) ∈ nsts) {n : Nat} (hn : pc + 3 = n) (h : V G J n lv (.ref (G.2.2.2.2.2 j) :: st) μ x k) : V G J pc lv st μ x k := by
  subst hn
  intro r hr o ho p l e s m args below meth c C H locs ls hP hS hl
  obtain ⟨hx, hb, hml, hre, hown, hts, hlk, hK, hDD, hST, hNW⟩ := id C
  exact va_getsN hx hb (hST j hj).1 hS hown (va_Nw.use rfl (hNW _ hm)) (fun _ h => h) d (h r hr o ho p l e s m args below meth c C H locs ls hP hS hl)
theorem v_sald {G : GG} {J : MD} {pc : Nat} {lv : List (Nat × Value)} {st : List Value} {μ : Mem} {R : Type} {x : Option R} {k : R → Option Oc} {j : Nat} {i : Int32} (d : decode J.2.1 pc = .ok (.iaload, 1)) (hj : j < 3) {n : Nat} (hn : pc + 1 = n) (h : V G J n lv (.int (stv j i.toNatClampNeg) :: st) μ x k) : V G J pc lv (.int i :: .ref (G.2.2.2.2.2 j) :: st) μ (ck (inb i 5) x) k := by
  subst hn
  intro r hr o ho p l e s m args below meth c C H locs ls hP hS hl
  obtain ⟨hx, hb, hml, hre, hown, hts, hlk, hK, hDD, hST, hNW⟩ := id C
  by_cases hi : inb i 5 = true
  · rw [ck, if_pos hi] at hr
    exact va_ti hx hb (hST j hj).2 hS (inb_vp hi) rfl d (h r hr o ho p l e s m args below meth c C H locs ls hP hS hl)
  · rw [ck, if_neg hi] at hr; cases hr
def cpk (sp dp n : Int32) (n0 n1 : Nat) : Bool := decide (¬ sp < 0 ∧ ¬ dp < 0 ∧ ¬ n < 0 ∧ sp.toNatClampNeg + n.toNatClampNeg ≤ n0 ∧ dp.toNatClampNeg + n.toNatClampNeg ≤ n1)
theorem v_acopy {G : GG} {J : MD} {pc : Nat} {lv : List (Nat × Value)} {st : List Value} {μ : Mem} {R : Type} {x : Option R} {k : R → Option Oc} {q0 q1 n0 n1 idx : Nat} {sp dp z : Int32} (d : decode J.2.1 pc = .ok (.invokestatic idx, 3)) (hl1 : Cond.methodLink J.1 idx arraycopyName ∈ TB) (hl2 : Cond.native arraycopyName ∈ TB) (hl3 : Cond.static arraycopyName ∈ TB) (hl4 : Cond.initialized "java/lang/System" ∈ TB) (hc0 : isA q0 n0) (hc1 : isA q1 n1) (hfr : 1 ≤ J.2.2.2.2.frames) (hlo : (st.map fun v => v.category).sum + (nativeFrameWords "java/lang/System" "arraycopy" 5 + 11) ≤ J.2.2.2.2.locals) {n : Nat} (hn : pc + 3 = n) (h : V G J n lv st (cpm μ q0 sp.toNatClampNeg q1 dp.toNatClampNeg z.toNatClampNeg) x k) : V G J pc lv (.int z :: .int dp :: .ref (G.2.1 q1) :: .int sp :: .ref (G.2.1 q0) :: st) μ (ck (cpk sp dp z n0 n1) x) k := by
  subst hn
  intro r hr o ho p l e s m args below meth c C H locs ls hP hS hl
  obtain ⟨hx, hb, hml, hre, hown, hts, hlk, hK, hDD, hST, hNW⟩ := id C
  by_cases hi : cpk sp dp z n0 n1 = true
  · rw [ck, if_pos hi] at hr
    have hi2 := hi
    rw [cpk, decide_eq_true_eq] at hi2
    obtain ⟨g1, g2, g3, g4, g5⟩ := hi2
    refine va_copyi hx hb (hml.trans hl.1.symm) hown (hts _ hl1) (hts _ hl2) (hts _ hl3) (hts _ hl4) hK hP (gD_of hDD) hS q0 q1 0 0 (gW_at hc0) (gW_at hc1) rfl rfl rfl g1 g2 g3 g4 g5 (fun _ _ => rfl) hfr hlo d (fun H1 locs1 hP1 _ hS1 => ?_)
    refine h r hr o ho p l e s m args below meth c C H1 locs1 ls ?_ hS1 hl
    rw [gW_cpm hc1]
    exact hP1
  · rw [ck, if_neg hi] at hr; cases hr
theorem w_call {p : Program} {l : Launch} {e : Env} {R : Room} {s : State} {m : MethodId} {args : Array Value} {below : List Frame} {meth : Method} {c : Code} {H : Heap} {locs : List Loc} {cells slots : Nat} {Q : State → Prop} {G : GG} {o : Oc} {pc : Nat} {ls : Array Slot} {st0 rest : List Value} {a : Array Value}
    (hr : va_Run p l e R s m args below meth c H locs cells slots 0 0 (F0 m pc ls st0) rest (gPost G o a) (gA G)) (hS : va_S (gA G) s.heap H locs)
    (kk : ∀ (H1 : Heap) (locs1 : List Loc), va_P G.1 vwCl (gW G o.2) H1 → va_S (gA G) s.heap H1 locs1 → W p l e R s m args below meth c H1 locs1 cells slots Q (F0 m (pc + 3) ls (o.1.toList ++ rest))) : W p l e R s m args below meth c H locs cells slots Q (F0 m pc ls st0) := by
  intro T hT X
  obtain ⟨v, st₀, t, T', L, h0, X', hL, e1, e2, ⟨hv, hp, hz, hk⟩, st⟩ := hr T hT X
  cases hv
  rw [h0] at hz hk
  obtain ⟨t2, a1, b1⟩ := kk T'.heap (locs ++ L) (by rw [e1]; exact hp)
    ⟨Nat.le_trans hS.1 (by rw [e1]; exact hz), fun q h1 h2 => by rw [e1, hk q (Nat.lt_of_lt_of_le h1 hS.1) h2]; exact hS.2.1 q h1 h2, fun q hq => by
      rcases List.mem_append.mp hq with h | h
      · exact hS.2.2 q h
      · exact hL q h⟩ T' rfl X'
  exact ⟨t2, st t2 a1, b1⟩
theorem v_callV {G : GG} {J : MD} {pc : Nat} {lv : List (Nat × Value)} {st : List Value} {μ : Mem} {R : Type} {k : R → Option Oc} {T : Type} {fx : Option T} {f : T → Option R} (toO : T → Oc) {J2 : MD} {y : MethodName} {idx ci q na : Nat} {fs : List (Option Nat)} {st0 : List Value} (As : List Value) (d : decode J.2.1 pc = .ok (.invokevirtual idx, 3)) (hM : ∀ t, fx = some t → GM G J2 y (.ref (G.2.1 q) :: As) μ (toO t)) (Cal : gCal J2 y ci na) (Lk : Cond.methodLink J.1 idx y ∈ TB) (hc : sh[q]? = some (.inr (ci, fs))) (hna : As.length = na) (hst : st0 = As.reverse ++ .ref (G.2.1 q) :: st) (hW : (st.map fun v => v.category).sum ≤ 8)
    (hR : J2.2.2.2.2.frames + 1 ≤ J.2.2.2.2.frames ∧ 8 + (J2.2.2.1 + 11) + J2.2.2.2.2.locals ≤ J.2.2.2.2.locals) (h : ∀ t, V G J (pc + 3) lv ((toO t).1.toList ++ st) (toO t).2 (f t) k) : V G J pc lv st0 μ (fx.bind f) k := by
  intro r hr o ho p l e s m args below meth c C H locs ls hP hS hl
  obtain ⟨hx, hb, hml, hre, hown, hts, hlk, hK, hDD, hST, hNW⟩ := id C
  cases hfx : fx with
  | none => rw [hfx] at hr; cases hr
  | some t =>
    rw [hfx] at hr
    obtain ⟨⟨T0, N0, c1⟩, c2, c3, c4, c5, c6, c7, c8, c9, c10⟩ := Cal
    have hT : GoodIn TB (wsV J.1 idx y.cls y (gWs J2 y)) := goodIn_app (fun w hw => by
      simp only [List.mem_cons, List.not_mem_nil, or_false] at hw
      rcases hw with rfl | rfl | rfl | rfl
      · exact TB_good _ Lk
      · exact TB_good _ c3
      · exact TB_good _ c4
      · exact TB_good _ c5) (gWs_good c2)
    have run := va_runV (As := As) (rest := st) (g := F0 m pc ls st0) (locs := locs) (cells := 0) (slots := 0) (e := e) (below := below) (meth := meth) ⟨hx, hb, hml, hown, hts⟩ (hM t hfx l) (cwV (R := J.2.2.2.2) na hts hT rfl c6 c7 ⟨rfl, c8, c9, c10⟩ hR) ⟨gBlind, va_recv hK hP c1 (gW_at hc), fun U hU hWm => ⟨rfl, by rw [hU]; exact hP, by rw [hU]; exact gOK_to C.2.2.2.2.2.2.2 hWm hS⟩⟩ rfl hna hl.1 hst (lv_room hW) d ⟨Nat.zero_le _, Nat.zero_le _⟩
    exact w_call run hS (fun H1 locs1 hP1 hS1 => h t r hr o ho p l e s m args below meth c C H1 locs1 ls hP1 hS1 hl)
theorem v_callS {G : GG} {J : MD} {pc : Nat} {lv : List (Nat × Value)} {st : List Value} {μ : Mem} {R : Type} {k : R → Option Oc} {T : Type} {fx : Option T} {f : T → Option R} (toO : T → Oc) {J2 : MD} {y : MethodName} {idx na : Nat} {st0 : List Value} (As : List Value) (d : decode J.2.1 pc = .ok (.invokestatic idx, 3)) (hM : ∀ t, fx = some t → GM G J2 y As μ (toO t)) (Cal : gCalS J2 y na) (Lk : Cond.methodLink J.1 idx y ∈ TB) (hna : As.length = na) (hst : st0 = As.reverse ++ st) (hW : (st.map fun v => v.category).sum ≤ 8)
    (hR : J2.2.2.2.2.frames + 1 ≤ J.2.2.2.2.frames ∧ 8 + (J2.2.2.1 + 11) + J2.2.2.2.2.locals ≤ J.2.2.2.2.locals) (h : ∀ t, V G J (pc + 3) lv ((toO t).1.toList ++ st) (toO t).2 (f t) k) : V G J pc lv st0 μ (fx.bind f) k := by
  intro r hr o ho p l e s m args below meth c C H locs ls hP hS hl
  obtain ⟨hx, hb, hml, hre, hown, hts, hlk, hK, hDD, hST, hNW⟩ := id C
  cases hfx : fx with
  | none => rw [hfx] at hr; cases hr
  | some t =>
    rw [hfx] at hr
    obtain ⟨c2, c3, c5, c6, c7, c8, c9, c10⟩ := Cal
    have hT : GoodIn TB (va_wsS J.1 idx y (gWs J2 y)) := goodIn_app (fun w hw => by
      simp only [List.mem_cons, List.not_mem_nil, or_false] at hw
      rcases hw with rfl | rfl | rfl
      · exact TB_good _ Lk
      · exact TB_good _ c3
      · exact TB_good _ c5) (gWs_good c2)
    have run := va_runS (As := As) (rest := st) (g := F0 m pc ls st0) (locs := locs) (cells := 0) (slots := 0) (e := e) (below := below) (meth := meth) ⟨hx, hb, hml, hown, hts⟩ (hM t hfx l) (va_cwS (R := J.2.2.2.2) na hts hT rfl c6 c7 ⟨c8, c9, c10⟩ hR) ⟨gBlind, fun U hU hWm => ⟨rfl, by rw [hU]; exact hP, by rw [hU]; exact gOK_to C.2.2.2.2.2.2.2 hWm hS⟩⟩ rfl hna hl.1 hst (lv_room hW) d ⟨Nat.zero_le _, Nat.zero_le _⟩
    exact w_call run hS (fun H1 locs1 hP1 hS1 => h t r hr o ho p l e s m args below meth c C H1 locs1 ls hP1 hS1 hl)
theorem v_cVi {G : GG} {J : MD} {pc : Nat} {lv : List (Nat × Value)} {st : List Value} {μ : Mem} {R : Type} {k : R → Option Oc} {fx : Option (Int32 × Mem)} {f : Int32 → Mem → Option R} {J2 : MD} {y : MethodName} {idx ci q na : Nat} {fs : List (Option Nat)} {st0 : List Value} (As : List Value) (d : decode J.2.1 pc = .ok (.invokevirtual idx, 3)) (hM : ∀ t, fx = some t → GM G J2 y (.ref (G.2.1 q) :: As) μ (oI t)) (Cal : gCal J2 y ci na) (Lk : Cond.methodLink J.1 idx y ∈ TB) (hc : sh[q]? = some (.inr (ci, fs))) (hna : As.length = na) (hst : st0 = As.reverse ++ .ref (G.2.1 q) :: st) (hW : (st.map fun v => v.category).sum ≤ 8) (hR : J2.2.2.2.2.frames + 1 ≤ J.2.2.2.2.frames ∧ 8 + (J2.2.2.1 + 11) + J2.2.2.2.2.locals ≤ J.2.2.2.2.locals) {n : Nat} (hn : pc + 3 = n) (h : ∀ (v : Int32) (ν : Mem), V G J n lv (.int v :: st) ν (f v ν) k) : V G J pc lv st0 μ (b2 fx f) k := by
  subst hn
  exact v_callV oI As d hM Cal Lk hc hna hst hW hR (fun t => h t.1 t.2)
theorem v_cSi {G : GG} {J : MD} {pc : Nat} {lv : List (Nat × Value)} {st : List Value} {μ : Mem} {R : Type} {k : R → Option Oc} {fx : Option (Int32 × Mem)} {f : Int32 → Mem → Option R} {J2 : MD} {y : MethodName} {idx na : Nat} {st0 : List Value} (As : List Value) (d : decode J.2.1 pc = .ok (.invokestatic idx, 3)) (hM : ∀ t, fx = some t → GM G J2 y As μ (oI t)) (Cal : gCalS J2 y na) (Lk : Cond.methodLink J.1 idx y ∈ TB) (hna : As.length = na) (hst : st0 = As.reverse ++ st) (hW : (st.map fun v => v.category).sum ≤ 8) (hR : J2.2.2.2.2.frames + 1 ≤ J.2.2.2.2.frames ∧ 8 + (J2.2.2.1 + 11) + J2.2.2.2.2.locals ≤ J.2.2.2.2.locals) {n : Nat} (hn : pc + 3 = n) (h : ∀ (v : Int32) (ν : Mem), V G J n lv (.int v :: st) ν (f v ν) k) : V G J pc lv st0 μ (b2 fx f) k := by
  subst hn
  exact v_callS oI As d hM Cal Lk hna hst hW hR (fun t => h t.1 t.2)
theorem v_cVl {G : GG} {J : MD} {pc : Nat} {lv : List (Nat × Value)} {st : List Value} {μ : Mem} {R : Type} {k : R → Option Oc} {fx : Option (Int64 × Mem)} {f : Int64 → Mem → Option R} {J2 : MD} {y : MethodName} {idx ci q na : Nat} {fs : List (Option Nat)} {st0 : List Value} (As : List Value) (d : decode J.2.1 pc = .ok (.invokevirtual idx, 3)) (hM : ∀ t, fx = some t → GM G J2 y (.ref (G.2.1 q) :: As) μ (oL t)) (Cal : gCal J2 y ci na) (Lk : Cond.methodLink J.1 idx y ∈ TB) (hc : sh[q]? = some (.inr (ci, fs))) (hna : As.length = na) (hst : st0 = As.reverse ++ .ref (G.2.1 q) :: st) (hW : (st.map fun v => v.category).sum ≤ 8) (hR : J2.2.2.2.2.frames + 1 ≤ J.2.2.2.2.frames ∧ 8 + (J2.2.2.1 + 11) + J2.2.2.2.2.locals ≤ J.2.2.2.2.locals) {n : Nat} (hn : pc + 3 = n) (h : ∀ (v : Int64) (ν : Mem), V G J n lv (.long v :: st) ν (f v ν) k) : V G J pc lv st0 μ (b2 fx f) k := by
  subst hn
  exact v_callV oL As d hM Cal Lk hc hna hst hW hR (fun t => h t.1 t.2)
theorem v_cSl {G : GG} {J : MD} {pc : Nat} {lv : List (Nat × Value)} {st : List Value} {μ : Mem} {R : Type} {k : R → Option Oc} {fx : Option (Int64 × Mem)} {f : Int64 → Mem → Option R} {J2 : MD} {y : MethodName} {idx na : Nat} {st0 : List Value} (As : List Value) (d : decode J.2.1 pc = .ok (.invokestatic idx, 3)) (hM : ∀ t, fx = some t → GM G J2 y As μ (oL t)) (Cal : gCalS J2 y na) (Lk : Cond.methodLink J.1 idx y ∈ TB) (hna : As.length = na) (hst : st0 = As.reverse ++ st) (hW : (st.map fun v => v.category).sum ≤ 8) (hR : J2.2.2.2.2.frames + 1 ≤ J.2.2.2.2.frames ∧ 8 + (J2.2.2.1 + 11) + J2.2.2.2.2.locals ≤ J.2.2.2.2.locals) {n : Nat} (hn : pc + 3 = n) (h : ∀ (v : Int64) (ν : Mem), V G J n lv (.long v :: st) ν (f v ν) k) : V G J pc lv st0 μ (b2 fx f) k := by
  subst hn
  exact v_callS oL As d hM Cal Lk hna hst hW hR (fun t => h t.1 t.2)
theorem v_cVv {G : GG} {J : MD} {pc : Nat} {lv : List (Nat × Value)} {st : List Value} {μ : Mem} {R : Type} {k : R → Option Oc} {fx : Option (Mem)} {f : Mem → Option R} {J2 : MD} {y : MethodName} {idx ci q na : Nat} {fs : List (Option Nat)} {st0 : List Value} (As : List Value) (d : decode J.2.1 pc = .ok (.invokevirtual idx, 3)) (hM : ∀ t, fx = some t → GM G J2 y (.ref (G.2.1 q) :: As) μ (oV t)) (Cal : gCal J2 y ci na) (Lk : Cond.methodLink J.1 idx y ∈ TB) (hc : sh[q]? = some (.inr (ci, fs))) (hna : As.length = na) (hst : st0 = As.reverse ++ .ref (G.2.1 q) :: st) (hW : (st.map fun v => v.category).sum ≤ 8) (hR : J2.2.2.2.2.frames + 1 ≤ J.2.2.2.2.frames ∧ 8 + (J2.2.2.1 + 11) + J2.2.2.2.2.locals ≤ J.2.2.2.2.locals) {n : Nat} (hn : pc + 3 = n) (h : ∀ (ν : Mem), V G J n lv st ν (f ν) k) : V G J pc lv st0 μ (b1 fx f) k := by
  subst hn
  exact v_callV oV As d hM Cal Lk hc hna hst hW hR (fun t => h t)
theorem v_cSv {G : GG} {J : MD} {pc : Nat} {lv : List (Nat × Value)} {st : List Value} {μ : Mem} {R : Type} {k : R → Option Oc} {fx : Option (Mem)} {f : Mem → Option R} {J2 : MD} {y : MethodName} {idx na : Nat} {st0 : List Value} (As : List Value) (d : decode J.2.1 pc = .ok (.invokestatic idx, 3)) (hM : ∀ t, fx = some t → GM G J2 y As μ (oV t)) (Cal : gCalS J2 y na) (Lk : Cond.methodLink J.1 idx y ∈ TB) (hna : As.length = na) (hst : st0 = As.reverse ++ st) (hW : (st.map fun v => v.category).sum ≤ 8) (hR : J2.2.2.2.2.frames + 1 ≤ J.2.2.2.2.frames ∧ 8 + (J2.2.2.1 + 11) + J2.2.2.2.2.locals ≤ J.2.2.2.2.locals) {n : Nat} (hn : pc + 3 = n) (h : ∀ (ν : Mem), V G J n lv st ν (f ν) k) : V G J pc lv st0 μ (b1 fx f) k := by
  subst hn
  exact v_callS oV As d hM Cal Lk hna hst hW hR (fun t => h t)
theorem v_cVa {G : GG} {J : MD} {pc : Nat} {lv : List (Nat × Value)} {st : List Value} {μ : Mem} {R : Type} {k : R → Option Oc} {fx : Option (Mem)} {f : Mem → Option R} {J2 : MD} {y : MethodName} {idx ci q na : Nat} {fs : List (Option Nat)} {st0 : List Value} (As : List Value) (d : decode J.2.1 pc = .ok (.invokevirtual idx, 3)) (hM : ∀ t, fx = some t → GM G J2 y (.ref (G.2.1 q) :: As) μ ((oA G) t)) (Cal : gCal J2 y ci na) (Lk : Cond.methodLink J.1 idx y ∈ TB) (hc : sh[q]? = some (.inr (ci, fs))) (hna : As.length = na) (hst : st0 = As.reverse ++ .ref (G.2.1 q) :: st) (hW : (st.map fun v => v.category).sum ≤ 8) (hR : J2.2.2.2.2.frames + 1 ≤ J.2.2.2.2.frames ∧ 8 + (J2.2.2.1 + 11) + J2.2.2.2.2.locals ≤ J.2.2.2.2.locals) {n : Nat} (hn : pc + 3 = n) (h : ∀ (ν : Mem), V G J n lv (.ref (G.2.1 14) :: st) ν (f ν) k) : V G J pc lv st0 μ (b1 fx f) k := by
  subst hn
  exact v_callV (oA G) As d hM Cal Lk hc hna hst hW hR (fun t => h t)
theorem v_cSa {G : GG} {J : MD} {pc : Nat} {lv : List (Nat × Value)} {st : List Value} {μ : Mem} {R : Type} {k : R → Option Oc} {fx : Option (Mem)} {f : Mem → Option R} {J2 : MD} {y : MethodName} {idx na : Nat} {st0 : List Value} (As : List Value) (d : decode J.2.1 pc = .ok (.invokestatic idx, 3)) (hM : ∀ t, fx = some t → GM G J2 y As μ ((oA G) t)) (Cal : gCalS J2 y na) (Lk : Cond.methodLink J.1 idx y ∈ TB) (hna : As.length = na) (hst : st0 = As.reverse ++ st) (hW : (st.map fun v => v.category).sum ≤ 8) (hR : J2.2.2.2.2.frames + 1 ≤ J.2.2.2.2.frames ∧ 8 + (J2.2.2.1 + 11) + J2.2.2.2.2.locals ≤ J.2.2.2.2.locals) {n : Nat} (hn : pc + 3 = n) (h : ∀ (ν : Mem), V G J n lv (.ref (G.2.1 14) :: st) ν (f ν) k) : V G J pc lv st0 μ (b1 fx f) k := by
  subst hn
  exact v_callS (oA G) As d hM Cal Lk hna hst hW hR (fun t => h t)
theorem v_iret {G : GG} {J : MD} {pc : Nat} {lv : List (Nat × Value)} {μ : Mem} {R : Type} {k : R → Option Oc} {t : R} {v : Int32} (d : decode J.2.1 pc = .ok (.ireturn, 1)) (hrt : J.2.2.2.1 = some .int) (hk : k t = some (some (.int v), μ)) : V G J pc lv [.int v] μ (some t) k := by
  intro r hr o ho p l e s m args below meth c C H locs ls hP hS hl
  obtain ⟨hx, hb, hml, hre, hown, hts, hlk, hK, hDD, hST, hNW⟩ := id C
  cases hr
  cases hk.symm.trans ho
  exact W.iret (v := v) hx hb (hre.trans hrt) (fun t ht hW => ⟨rfl, by rw [ht]; exact hP, hS.F ht⟩) hS.2.2 d hlk
theorem v_zret {G : GG} {J : MD} {pc : Nat} {lv : List (Nat × Value)} {μ : Mem} {R : Type} {k : R → Option Oc} {t : R} {v : Int32} (d : decode J.2.1 pc = .ok (.ireturn, 1)) (hrt : J.2.2.2.1 = some .boolean) (hv : narrow .boolean (.int v) = .int v) (hk : k t = some (some (.int v), μ)) : V G J pc lv [.int v] μ (some t) k := by
  intro r hr o ho p l e s m args below meth c C H locs ls hP hS hl
  obtain ⟨hx, hb, hml, hre, hown, hts, hlk, hK, hDD, hST, hNW⟩ := id C
  cases hr
  cases hk.symm.trans ho
  exact W.zret (v := v) hx hb (hre.trans hrt) hv (fun t ht hW => ⟨rfl, by rw [ht]; exact hP, hS.F ht⟩) hS.2.2 d hlk
theorem v_zretV {G : GG} {J : MD} {pc : Nat} {lv : List (Nat × Value)} {μ : Mem} {R : Type} {k : R → Option Oc} {t : R} {v : Int32} (d : decode J.2.1 pc = .ok (.ireturn, 1)) (hrt : J.2.2.2.1 = some .boolean) (hk : k t = some (some (.int v), μ)) : V G J pc lv [.int v] μ (ck (bo v) (some t)) k := by
  by_cases h : bo v = true
  · rw [ck, if_pos h]
    exact v_zret d hrt (by simpa [bo] using h) hk
  · rw [ck, if_neg h]
    exact v_none
theorem v_lret {G : GG} {J : MD} {pc : Nat} {lv : List (Nat × Value)} {μ : Mem} {R : Type} {k : R → Option Oc} {t : R} {v : Int64} (d : decode J.2.1 pc = .ok (.lreturn, 1)) (hrt : J.2.2.2.1 = some .long) (hk : k t = some (some (.long v), μ)) : V G J pc lv [.long v] μ (some t) k := by
  intro r hr o ho p l e s m args below meth c C H locs ls hP hS hl
  obtain ⟨hx, hb, hml, hre, hown, hts, hlk, hK, hDD, hST, hNW⟩ := id C
  cases hr
  cases hk.symm.trans ho
  exact W.lret (v := v) hx hb (hre.trans hrt) (fun t ht hW => ⟨rfl, by rw [ht]; exact hP, hS.F ht⟩) hS.2.2 d hlk
theorem v_vret {G : GG} {J : MD} {pc : Nat} {lv : List (Nat × Value)} {μ : Mem} {R : Type} {k : R → Option Oc} {t : R} (d : decode J.2.1 pc = .ok (.return_, 1)) (hrt : J.2.2.2.1 = none) (hk : k t = some (none, μ)) : V G J pc lv [] μ (some t) k := by
  intro r hr o ho p l e s m args below meth c C H locs ls hP hS hl
  obtain ⟨hx, hb, hml, hre, hown, hts, hlk, hK, hDD, hST, hNW⟩ := id C
  cases hr
  cases hk.symm.trans ho
  exact W.vret hx hb (hre.trans hrt) (fun t ht hW => ⟨rfl, by rw [ht]; exact hP, hS.F ht⟩) hS.2.2 d hlk
theorem v_aret {G : GG} {J : MD} {pc : Nat} {lv : List (Nat × Value)} {μ : Mem} {R : Type} {k : R → Option Oc} {t : R} {q : Nat} {nm : String} (d : decode J.2.1 pc = .ok (.areturn, 1)) (hrt : J.2.2.2.1 = some (.object nm)) (hk : k t = some (some (.ref (G.2.1 q)), μ)) : V G J pc lv [.ref (G.2.1 q)] μ (some t) k := by
  intro r hr o ho p l e s m args below meth c C H locs ls hP hS hl
  obtain ⟨hx, hb, hml, hre, hown, hts, hlk, hK, hDD, hST, hNW⟩ := id C
  cases hr
  cases hk.symm.trans ho
  exact W.aret (v := .ref (G.2.1 q)) hx hb (hre.trans hrt) (Or.inl ⟨nm, rfl⟩) (Or.inr ⟨_, rfl⟩) (fun t ht hW => ⟨rfl, by rw [ht]; exact hP, hS.F ht⟩) hS.2.2 d hlk
theorem v_x1 {G : GG} {J : MD} {pc : Nat} {lv : List (Nat × Value)} {st : List Value} {μ : Mem} {R : Type} {k : R → Option Oc} {A : Type} {z : Option (A)} {f : A → Option R} {px : Nat} {lx : A → List (Nat × Value)} {mx : A → Mem} (hz : ∀ kk : A → Option Oc, (∀ (a0 : A), V G J px (lx a0) [] (mx a0) (kk a0) some) → V G J pc lv st μ z kk) (h : ∀ (a0 : A), V G J px (lx a0) [] (mx a0) (f a0) k) : V G J pc lv st μ (b1 z f) k :=
  v_bind (hz _ (fun a0 => v_some (h a0)))
theorem v_x2 {G : GG} {J : MD} {pc : Nat} {lv : List (Nat × Value)} {st : List Value} {μ : Mem} {R : Type} {k : R → Option Oc} {A B : Type} {z : Option (A × B)} {f : A → B → Option R} {px : Nat} {lx : A → B → List (Nat × Value)} {mx : A → B → Mem} (hz : ∀ kk : A × B → Option Oc, (∀ (a0 : A) (b0 : B), V G J px (lx a0 b0) [] (mx a0 b0) (kk (a0, b0)) some) → V G J pc lv st μ z kk) (h : ∀ (a0 : A) (b0 : B), V G J px (lx a0 b0) [] (mx a0 b0) (f a0 b0) k) : V G J pc lv st μ (b2 z f) k :=
  v_bind (hz _ (fun a0 b0 => v_some (h a0 b0)))
theorem v_x3 {G : GG} {J : MD} {pc : Nat} {lv : List (Nat × Value)} {st : List Value} {μ : Mem} {R : Type} {k : R → Option Oc} {A B C : Type} {z : Option (A × B × C)} {f : A → B → C → Option R} {px : Nat} {lx : A → B → C → List (Nat × Value)} {mx : A → B → C → Mem} (hz : ∀ kk : A × B × C → Option Oc, (∀ (a0 : A) (b0 : B) (c0 : C), V G J px (lx a0 b0 c0) [] (mx a0 b0 c0) (kk (a0, b0, c0)) some) → V G J pc lv st μ z kk) (h : ∀ (a0 : A) (b0 : B) (c0 : C), V G J px (lx a0 b0 c0) [] (mx a0 b0 c0) (f a0 b0 c0) k) : V G J pc lv st μ (b3 z f) k :=
  v_bind (hz _ (fun a0 b0 c0 => v_some (h a0 b0 c0)))
theorem v_x4 {G : GG} {J : MD} {pc : Nat} {lv : List (Nat × Value)} {st : List Value} {μ : Mem} {R : Type} {k : R → Option Oc} {A B C D : Type} {z : Option (A × B × C × D)} {f : A → B → C → D → Option R} {px : Nat} {lx : A → B → C → D → List (Nat × Value)} {mx : A → B → C → D → Mem} (hz : ∀ kk : A × B × C × D → Option Oc, (∀ (a0 : A) (b0 : B) (c0 : C) (d0 : D), V G J px (lx a0 b0 c0 d0) [] (mx a0 b0 c0 d0) (kk (a0, b0, c0, d0)) some) → V G J pc lv st μ z kk) (h : ∀ (a0 : A) (b0 : B) (c0 : C) (d0 : D), V G J px (lx a0 b0 c0 d0) [] (mx a0 b0 c0 d0) (f a0 b0 c0 d0) k) : V G J pc lv st μ (b4 z f) k :=
  v_bind (hz _ (fun a0 b0 c0 d0 => v_some (h a0 b0 c0 d0)))
theorem v_x5 {G : GG} {J : MD} {pc : Nat} {lv : List (Nat × Value)} {st : List Value} {μ : Mem} {R : Type} {k : R → Option Oc} {A B C D E : Type} {z : Option (A × B × C × D × E)} {f : A → B → C → D → E → Option R} {px : Nat} {lx : A → B → C → D → E → List (Nat × Value)} {mx : A → B → C → D → E → Mem} (hz : ∀ kk : A × B × C × D × E → Option Oc, (∀ (a0 : A) (b0 : B) (c0 : C) (d0 : D) (e0 : E), V G J px (lx a0 b0 c0 d0 e0) [] (mx a0 b0 c0 d0 e0) (kk (a0, b0, c0, d0, e0)) some) → V G J pc lv st μ z kk) (h : ∀ (a0 : A) (b0 : B) (c0 : C) (d0 : D) (e0 : E), V G J px (lx a0 b0 c0 d0 e0) [] (mx a0 b0 c0 d0 e0) (f a0 b0 c0 d0 e0) k) : V G J pc lv st μ (b5 z f) k :=
  v_bind (hz _ (fun a0 b0 c0 d0 e0 => v_some (h a0 b0 c0 d0 e0)))
