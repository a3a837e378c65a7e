def gB (B : Nat) : Nat → Prop := fun q => B ≤ q
def mns : List (Nat × MethodName) := [(19, yX1_init), (29, yX0_init), (39, yX3_init), (51, yX2_init)]
def nT (cI cS : ClassId) : List (ClassId × FieldType) := [(cI, .int), (cS, .object "BookPairs$Sheet")]
def nOK (D : va_G) (B : Nat) (cI cS : ClassId) (s : State) : Prop := va_K D vwCl (nT cI cS) s ∧ va_AO "BookPairs$Sheet" s ∧ (∀ q ∈ mns, va_Nw (.methodLinkNest "BookPairs" q.1 q.2 "BookPairs") s) ∧ B ≤ s.heap.size
def nPost (D : va_G) (B : Nat) (post : va_W → Prop) : Array Value → State → Outcome → State → Prop := fun _ st oc t => (oc = .returned none ∧ ∃ ws, post ws ∧ va_P D vwCl ws t.heap ∧ va_D (gB B) ws) ∧ va_F (gB B) st t
def nPre (D : va_G) (B : Nat) (cI cS : ClassId) (av : List Value) (ws : va_W) : Array Value → State → Prop := va_Pc av (fun U => va_P D vwCl ws U.heap ∧ va_D (gB B) ws ∧ nOK D B cI cS U)
def GN (D : va_G) (B : Nat) (cI cS : ClassId) (J : MD) (y : MethodName) (av : List Value) (ws : va_W) (post : va_W → Prop) : Prop := ∀ l : Launch, Met l y (gWs J y) J.2.2.2.2 (nPre D B cI cS av ws) (nPost D B post) J.2.2.2.2.cells J.2.2.2.2.slots (gB B)
theorem nOK_to {D : va_G} {B : Nat} {cI cS : ClassId} {s U : State} {H : Heap} {locs : List Loc} (h : nOK D B cI cS s) (hW : s.WarmedH U.vm) (hS : va_S (gB B) s.heap H locs) (hU : U.heap = H) : nOK D B cI cS U :=
  ⟨va_K.moved hW.alike h.1, va_AO.moved hW.alike h.2.1, fun q hq => va_Nw.warmM hW (h.2.2.1 q hq), Nat.le_trans h.2.2.2 (by rw [hU]; exact hS.1)⟩
theorem nBlind {D : va_G} {B : Nat} {cI cS : ClassId} {av : List Value} {ws : va_W} : FrameBlind (nPre D B cI cS av ws) := by
  intro a U g mk h
  obtain ⟨h1, h2, h3, h4, h5, h6, h7⟩ := h
  exact ⟨h1, h2, h3, va_K.moved (u := U) (U := U.calling g mk a) (Vm.Alike.refl U.vm) h4, va_AO.moved (u := U) (U := U.calling g mk a) (Vm.Alike.refl U.vm) h5, fun q hq => va_Nw.same rfl rfl (h6 q hq), h7⟩
def nCtx (D : va_G) (B : Nat) (cI cS : ClassId) (J : MD) (p : Program) (s : State) (m : MethodId) (args : Array Value) (meth : Method) (c : Code) : Prop :=
  p.tables.exec = Jvm.exec ∧ c.code = J.2.1 ∧ c.maxLocals = J.2.2.1 ∧ meth.sig.returnType = none ∧ s.vm.findClass J.1 = some m.cls ∧ (∀ w ∈ TB, w.before args s = true) ∧ meth.locks = false ∧ meth.name = "<init>" ∧ nOK D B cI cS s
def VN (D : va_G) (B : Nat) (cI cS : ClassId) (J : MD) (pc : Nat) (lv : List (Nat × Value)) (st : List Value) (ws : va_W) (nc ns : Nat) (post : va_W → Prop) : Prop :=
  ∀ (p : Program) (l : Launch) (e : Env) (s : State) (m : MethodId) (args : Array Value) (below : List Frame) (meth : Method) (c : Code), nCtx D B cI cS J p s m args meth c → ∀ (H : Heap) (locs : List Loc) (ls : Array Slot), va_P D vwCl ws H → va_D (gB B) ws → va_S (gB B) s.heap H locs → lv_has ls J.2.2.1 lv →
    W p l e J.2.2.2.2 s m args below meth c H locs nc ns (MQ below (nPost D B post) args s J.2.2.2.2.cells J.2.2.2.2.slots (gB B)) (F0 m pc ls st)
theorem gn_of {D : va_G} {B : Nat} {cI cS : ClassId} {J : MD} {y : MethodName} {av : List Value} {ws : va_W} {post : va_W → Prop} (hc : J.1 = y.cls) (hi : y.name = "<init>") (hp : plainName y.cls = true) (hrt : J.2.2.2.1 = none) (hl : (lg_sl av).length ≤ J.2.2.1) (h : VN D B cI cS J 0 (lv_args 0 av) [] ws 0 0 post) : GN D B cI cS J y av ws post := by
  intro l
  refine Met.ofW (cc := J.2.1) (maxL := J.2.2.1) (ret := J.2.2.2.1) hp rfl ?_
  intro p e s m args below meth c s₁ B0 hml hv
  obtain ⟨rfl, hP, hD, hO⟩ := hv
  have hts := atoms_spec (ws := gWs J y) B0.pre
  have hl2 := lv_entry av hl
  have hin : meth.name = "<init>" := ((name_of_methodNamed B0.named B0.method).1).trans hi
  rw [lg_entry_eq]
  exact h p l e s m _ below meth c ⟨B0.exec, B0.bytes, hml, by rw [B0.returns, hrt], by rw [hc]; exact findClass_of_methodNamed B0.named, fun w hw => hts w (List.mem_cons_of_mem _ hw), B0.notSynchronized, hin, hO⟩ s.heap [] _ hP hD va_S.rf hl2
section NR
variable {D : va_G} {B : Nat} {cI cS : ClassId} {J : MD} {pc : Nat} {lv : List (Nat × Value)} {st : List Value} {ws : va_W} {nc ns : Nat} {post : va_W → Prop} {n : Nat}
theorem n_eq {ws2 : va_W} (h0 : ws = ws2) (h : VN D B cI cS J pc lv st ws2 nc ns post) : VN D B cI cS J pc lv st ws nc ns post := by rw [h0]; exact h
theorem n_cs {nc2 ns2 : Nat} (h1 : nc = nc2) (h2 : ns = ns2) (h : VN D B cI cS J pc lv st ws nc2 ns2 post) : VN D B cI cS J pc lv st ws nc ns post := by rw [h1, h2]; exact h
theorem n_aload {q : Fin 4} {i v : Nat} (d : decode J.2.1 pc = .ok (.aload_n q, 1)) (hi : (q : Nat) = i) (j : Nat) (hj : lv[j]? = some (i, .ref v)) (hn : pc + 1 = n) (h : VN D B cI cS J n lv (.ref v :: st) ws nc ns post) : VN D B cI cS J pc lv st ws nc ns post := by
  subst hn
  intro p l e s m args below meth c C H locs ls hP hD hS hl
  exact lv_aload_n C.1 C.2.1 d hi (lv_at hl j hj) (h p l e s m args below meth c C H locs ls hP hD hS hl)
theorem n_iload {q : Fin 4} {i : Nat} {v : Int32} (d : decode J.2.1 pc = .ok (.iload_n q, 1)) (hi : (q : Nat) = i) (j : Nat) (hj : lv[j]? = some (i, .int v)) (hn : pc + 1 = n) (h : VN D B cI cS J n lv (.int v :: st) ws nc ns post) : VN D B cI cS J pc lv st ws nc ns post := by
  subst hn
  intro p l e s m args below meth c C H locs ls hP hD hS hl
  exact lv_iload_n C.1 C.2.1 d hi (lv_at hl j hj) (h p l e s m args below meth c C H locs ls hP hD hS hl)
theorem n_dup {a : Value} (d : decode J.2.1 pc = .ok (.dup, 1)) (ha : a.category = 1) (hn : pc + 1 = n) (h : VN D B cI cS J n lv (a :: a :: st) ws nc ns post) : VN D B cI cS J pc lv (a :: st) ws nc ns post := by
  subst hn
  intro p l e s m args below meth c C H locs ls hP hD hS hl
  exact lv_dup C.1 C.2.1 d ha (h p l e s m args below meth c C H locs ls hP hD hS hl)
theorem n_iconst {q : Int} {v : Int32} (d : decode J.2.1 pc = .ok (.iconst q, 1)) (hv : Int32.ofInt q = v) (hn : pc + 1 = n) (h : VN D B cI cS J n lv (.int v :: st) ws nc ns post) : VN D B cI cS J pc lv st ws nc ns post := by
  subst hn
  intro p l e s m args below meth c C H locs ls hP hD hS hl
  exact lv_iconst C.1 C.2.1 d hv (h p l e s m args below meth c C H locs ls hP hD hS hl)
theorem n_bipush {q : Int} {v : Int32} (d : decode J.2.1 pc = .ok (.bipush q, 2)) (hv : (Int8.ofInt q).toInt32 = v) (hn : pc + 2 = n) (h : VN D B cI cS J n lv (.int v :: st) ws nc ns post) : VN D B cI cS J pc lv st ws nc ns post := by
  subst hn
  intro p l e s m args below meth c C H locs ls hP hD hS hl
  exact lv_bipush C.1 C.2.1 d hv (h p l e s m args below meth c C H locs ls hP hD hS hl)
theorem n_sipush {q : Int} {v : Int32} (d : decode J.2.1 pc = .ok (.sipush q, 3)) (hv : (Int16.ofInt q).toInt32 = v) (hn : pc + 3 = n) (h : VN D B cI cS J n lv (.int v :: st) ws nc ns post) : VN D B cI cS J pc lv st ws nc ns post := by
  subst hn
  intro p l e s m args below meth c C H locs ls hP hD hS hl
  exact lv_sipush C.1 C.2.1 d hv (h p l e s m args below meth c C H locs ls hP hD hS hl)
theorem n_istore {q : Fin 4} {i : Nat} {v : Int32} (lv' : List (Nat × Value)) (d : decode J.2.1 pc = .ok (.istore_n q, 1)) (hi : (q : Nat) = i) (hb : i < J.2.2.1) (hl' : (i, Value.int v) :: lv.filter (fun q => !(q.1 == i) && !(q.1 + 1 == i && q.2.category == 2)) = lv') (hn : pc + 1 = n) (h : VN D B cI cS J n lv' st ws nc ns post) : VN D B cI cS J pc lv (.int v :: st) ws nc ns post := by
  subst hn
  intro p l e s m args below meth c C H locs ls hP hD hS hl
  exact lv_istore_n C.1 C.2.1 d hi hl hb hl' (fun ls hl => h p l e s m args below meth c C H locs ls hP hD hS hl)
theorem n_iinc {i : Nat} {q : Int} {z v : Int32} (lv' : List (Nat × Value)) (d : decode J.2.1 pc = .ok (.iinc i q, 3)) (j : Nat) (hj : lv[j]? = some (i, .int z)) (hv : z + Int32.ofInt q = v) (hb : i < J.2.2.1) (hl' : (i, Value.int v) :: lv.filter (fun q => !(q.1 == i) && !(q.1 + 1 == i && q.2.category == 2)) = lv') (hn : pc + 3 = n) (h : VN D B cI cS J n lv' st ws nc ns post) : VN D B cI cS J pc lv st ws nc ns post := by
  subst hn
  intro p l e s m args below meth c C H locs ls hP hD hS hl
  exact lv_iinc C.1 C.2.1 d hl hj hv hb hl' (fun ls hl => h p l e s m args below meth c C H locs ls hP hD hS hl)
theorem n_geF {a b : Int32} {off : Int} {tgt : Nat} (d : decode J.2.1 pc = .ok (.if_icmp .ge off, 3)) (ht : (pc : Int) + off = (tgt : Int)) (hc : ¬ b ≤ a) (hn : pc + 3 = n) (h : VN D B cI cS J n lv st ws nc ns post) : VN D B cI cS J pc lv (.int b :: .int a :: st) ws nc ns post := by
  subst hn
  intro p l e s m args below meth c C H locs ls hP hD hS hl
  exact lv_icmp_ge C.1 C.2.1 d ht (fun q => absurd q hc) (fun _ => h p l e s m args below meth c C H locs ls hP hD hS hl)
theorem n_geT {a b : Int32} {off : Int} {tgt : Nat} (d : decode J.2.1 pc = .ok (.if_icmp .ge off, 3)) (ht : (pc : Int) + off = (tgt : Int)) (hc : b ≤ a) (h : VN D B cI cS J tgt lv st ws nc ns post) : VN D B cI cS J pc lv (.int b :: .int a :: st) ws nc ns post := by
  intro p l e s m args below meth c C H locs ls hP hD hS hl
  exact lv_icmp_ge C.1 C.2.1 d ht (fun _ => h p l e s m args below meth c C H locs ls hP hD hS hl) (fun q => absurd hc q)
theorem n_goto {off : Int} {tgt : Nat} (d : decode J.2.1 pc = .ok (.goto off, 3)) (ht : (pc : Int) + off = (tgt : Int)) (h : VN D B cI cS J tgt lv st ws nc ns post) : VN D B cI cS J pc lv st ws nc ns post := by
  intro p l e s m args below meth c C H locs ls hP hD hS hl
  exact lv_goto C.1 C.2.1 d ht (h p l e s m args below meth c C H locs ls hP hD hS hl)
theorem n_objI {idx v : Nat} (d : decode J.2.1 pc = .ok (.invokespecial idx, 3)) (h1 : Cond.methodLink J.1 idx objectInit ∈ TB) (h2 : Cond.instanceMethod objectInit ∈ TB) (h3 : Cond.code objectInit ⟨#[0xb1]⟩ 1 none ∈ TB) (hfr : 1 ≤ J.2.2.2.2.frames) (hlo : 2 * 0 + (st.map fun v => v.category).sum + 12 ≤ J.2.2.2.2.locals) (hn : pc + 3 = n) (h : VN D B cI cS J n lv st ws nc ns post) : VN D B cI cS J pc lv (.ref v :: st) ws nc ns post := by
  subst hn
  intro p l e s m args below meth c C H locs ls hP hD hS hl
  obtain ⟨hx, hb, hml, hre, hown, hts, hlk, hin, hO⟩ := id C
  refine W.objInit hx hb hown (hts _ h1) (hts _ h2) (hts _ h3) rfl (by rw [hml]; exact hl.1) rfl d hfr hlo ?_
  exact h p l e s m args below meth c C H locs ls hP hD hS hl
theorem n_newa {N : Nat} {v : Int32} (d : decode J.2.1 pc = .ok (.newarray .int, 2)) (h1 : Cond.arrayClass .int ∈ TB) (hv : ¬ v < 0) (hN : v.toNatClampNeg = N) (hby : N * 4 ≤ 536870912) (hcc : nc + 1 ≤ J.2.2.2.2.cells) (hss : ns + N ≤ J.2.2.2.2.slots) (hn : pc + 2 = n) (h : ∀ q, VN D B cI cS J n lv (.ref q :: st) (ws ++ [(q, .inl (cI, N, .inl (fun _ => 0)))]) (nc + 1) (ns + N) post) : VN D B cI cS J pc lv (.int v :: st) ws nc ns post := by
  subst hn
  intro p l e s m args below meth c C H locs ls hP hD hS hl
  obtain ⟨hx, hb, hml, hre, hown, hts, hlk, hin, hO⟩ := id C
  refine va_newa (atype := .int) (ty := .int) (a0 := (N, .inl (fun _ => 0))) hx hb (hts _ h1) rfl hO.1 hP hD hS (fun q hq => Nat.le_trans hO.2.2.2 hq) (fun _ => rfl) hv hN hby hcc hss d (fun q cA H1 hK1 hP1 hD1 hS1 => ?_)
  have e1 : s.vm.findClass ("[" ++ (FieldType.int).toString) = some cA := (hK1.2 2 (cA, .int) rfl).2
  have e2 : s.vm.findClass ("[" ++ (FieldType.int).toString) = some cI := (hO.1.2 0 (cI, .int) rfl).2
  have e3 : cA = cI := Option.some.inj (e1.symm.trans e2)
  subst e3
  exact h q p l e s m args below meth c C H1 locs ls hP1 hD1 hS1 hl
theorem n_newq {N idx : Nat} {v : Int32} (d : decode J.2.1 pc = .ok (.anewarray idx, 3)) (h1 : Cond.classLink J.1 idx "BookPairs$Sheet" ∈ TB) (hv : ¬ v < 0) (hN : v.toNatClampNeg = N) (hby : N * 4 ≤ 536870912) (hcc : nc + 1 ≤ J.2.2.2.2.cells) (hss : ns + N ≤ J.2.2.2.2.slots) (hn : pc + 3 = n) (h : ∀ q, VN D B cI cS J n lv (.ref q :: st) (ws ++ [(q, .inl (cS, N, .inr (.inr (.inr (.inr (fun _ => none))))))]) (nc + 1) (ns + N) post) : VN D B cI cS J pc lv (.int v :: st) ws nc ns post := by
  subst hn
  intro p l e s m args below meth c C H locs ls hP hD hS hl
  obtain ⟨hx, hb, hml, hre, hown, hts, hlk, hin, hO⟩ := id C
  refine va_newq hx hb hown (hts _ h1) hO.2.1 hO.1 hP hD hS (fun q hq => Nat.le_trans hO.2.2.2 hq) hv hN hby hcc hss d (fun q cA H1 hK1 hP1 hD1 hS1 => ?_)
  obtain ⟨k1, c1, -, -, -, e1⟩ := (hK1.2 2 (cA, .object "BookPairs$Sheet") rfl).2
  obtain ⟨k2, c2, -, -, -, e2⟩ := (hO.1.2 1 (cS, .object "BookPairs$Sheet") rfl).2
  have e3 : cA = cS := Option.some.inj (e1.symm.trans e2)
  subst e3
  exact h q p l e s m args below meth c C H1 locs ls hP1 hD1 hS1 hl
theorem va_P_rot {H : Heap} {x : Nat × va_E} (h : va_P D vwCl (ws ++ [x]) H) : va_P D vwCl (x :: ws) H := by
  intro k q hk
  have hm : q ∈ ws ++ [x] := by
    have := List.mem_of_getElem? hk
    simp only [List.mem_cons, List.mem_append, List.not_mem_nil, or_false] at this ⊢
    exact this.symm
  obtain ⟨i, hi⟩ := List.getElem?_of_mem hm
  exact h i q hi
theorem va_D_rot {A : Nat → Prop} {x : Nat × va_E} (h : va_D A (ws ++ [x])) : va_D A (x :: ws) := by
  have key : ∀ (k : Nat) (q : Nat × va_E), (x :: ws)[k]? = some q → (ws ++ [x])[if k = 0 then ws.length else k - 1]? = some q := by
    intro k q hk
    cases k with
    | zero =>
      rw [List.getElem?_cons_zero] at hk
      rw [if_pos rfl, List.getElem?_append_right (Nat.le_refl _), Nat.sub_self]
      exact hk
    | succ k =>
      rw [List.getElem?_cons_succ] at hk
      rw [if_neg (Nat.succ_ne_zero k), Nat.add_sub_cancel, List.getElem?_append_left (List.getElem?_eq_some_iff.mp hk).1]
      exact hk
  refine ⟨fun i j a b hi hj hab => ?_, fun k q hk => ?_⟩
  · have h1 := h.1 _ _ a b (key i a hi) (key j b hj) hab
    have hi' := (List.getElem?_eq_some_iff.mp hi).1
    have hj' := (List.getElem?_eq_some_iff.mp hj).1
    simp only [List.length_cons] at hi' hj'
    by_cases e1 : i = 0 <;> by_cases e2 : j = 0
    · omega
    · rw [if_pos e1, if_neg e2] at h1; omega
    · rw [if_neg e1, if_pos e2] at h1; omega
    · rw [if_neg e1, if_neg e2] at h1; omega
  · exact h.2 _ q (key k q hk)
theorem va_P_swap {H : Heap} {x y : Nat × va_E} (h : va_P D vwCl (y :: x :: ws) H) : va_P D vwCl (x :: y :: ws) H := by
  intro k q hk
  match k, hk with
  | 0, hk => exact h 1 q hk
  | 1, hk => exact h 0 q hk
  | k + 2, hk => exact h (k + 2) q hk
theorem va_D_swap {A : Nat → Prop} {x y : Nat × va_E} (h : va_D A (y :: x :: ws)) : va_D A (x :: y :: ws) := by
  have key : ∀ (k : Nat) (q : Nat × va_E), (x :: y :: ws)[k]? = some q → (y :: x :: ws)[if k = 0 then 1 else if k = 1 then 0 else k]? = some q := by
    intro k q hk
    match k, hk with
    | 0, hk => exact hk
    | 1, hk => exact hk
    | k + 2, hk => exact hk
  refine ⟨fun i j a b hi hj hab => ?_, fun k q hk => h.2 _ q (key k q hk)⟩
  have h1 := h.1 _ _ a b (key i a hi) (key j b hj) hab
  split at h1 <;> (try split at h1) <;> (try split at h1) <;> (try split at h1) <;> omega
theorem n_newa2 {N : Nat} {v : Int32} {x0 : Nat × va_E} (d : decode J.2.1 pc = .ok (.newarray .int, 2)) (h1 : Cond.arrayClass .int ∈ TB) (hv : ¬ v < 0) (hN : v.toNatClampNeg = N) (hby : N * 4 ≤ 536870912) (hcc : nc + 1 ≤ J.2.2.2.2.cells) (hss : ns + N ≤ J.2.2.2.2.slots) (hn : pc + 2 = n) (h : ∀ q, VN D B cI cS J n lv (.ref q :: st) (x0 :: (q, .inl (cI, N, .inl (fun _ => 0))) :: ws) (nc + 1) (ns + N) post) : VN D B cI cS J pc lv (.int v :: st) (x0 :: ws) nc ns post := by
  refine n_newa d h1 hv hN hby hcc hss hn (fun q => ?_)
  intro p l e s m args below meth c C H locs ls hP hD hS hl
  exact h q p l e s m args below meth c C H locs ls (va_P_swap (va_P_rot hP)) (va_D_swap (va_D_rot hD)) hS hl
theorem n_new {ci idx N : Nat} {Cn : String} {T : u_T} {ty : Nat → FieldType} {fs : List Value} (d : decode J.2.1 pc = .ok (.new idx, 3)) (hc : vwCl[ci]? = some (Cn, T, N)) (hin0 : ∀ w ∈ u_ws Cn T N, w ∈ TB) (hty : ∀ k, k < N → parseFieldDescriptor (T k).2.2.1 = some (ty k)) (h1 : Cond.classLink J.1 idx Cn ∈ TB) (h2 : Cond.instantiable Cn N ∈ TB) (h3 : Cond.initialized Cn ∈ TB) (hfs : ∀ j, j < N → defaultValue (ty j) = vp_V fs j) (hcc : nc + 1 ≤ J.2.2.2.2.cells) (hss : ns + N ≤ J.2.2.2.2.slots) (hn : pc + 3 = n) (h : ∀ q, VN D B cI cS J n lv (.ref q :: st) ((q, .inr (ci, fs)) :: ws) (nc + 1) (ns + N) post) : VN D B cI cS J pc lv st ws nc ns post := by
  subst hn
  intro p l e s m args below meth c C H locs ls hP hD hS hl
  obtain ⟨hx, hb, hml, hre, hown, hts, hlk, hin, hO⟩ := id C
  refine va_new (ci := ci) (fs := fs) (C := Cn) (T := T) (N := N) hx hb hts hin0 ty hty hown (hts _ h1) (hts _ h2) (hts _ h3) hO.1 hP hD hS (fun q hq => Nat.le_trans hO.2.2.2 hq) hc hfs hcc hss d (fun q H1 hP1 hD1 hS1 => ?_)
  exact h q p l e s m args below meth c C H1 locs ls (va_P_rot hP1) (va_D_rot hD1) hS1 hl
theorem n_putF {ci idx N i k a : Nat} {Cn : String} {T : u_T} {ty0 : Nat → FieldType} {ty : FieldType} {fs : List Value} {v : Value} {ws2 : va_W} (i0 : i = i) (d : decode J.2.1 pc = .ok (.putfield idx, 3)) (he : ws[i]? = some (a, .inr (ci, fs))) (hc : vwCl[ci]? = some (Cn, T, N)) (hin0 : ∀ w ∈ u_ws Cn T N, w ∈ TB) (hty : ∀ k, k < N → parseFieldDescriptor (T k).2.2.1 = some (ty0 k)) (hnm : ∀ a, a < N → ∀ b, b < N → a ≠ b → (T a).2.1 ≠ (T b).2.1) (hk : k < N) (h1 : Cond.fieldLink J.1 idx (T k).1 (T k).2.1 (T k).2.2.1 ∈ TB) (hfin : (T k).2.2.2 = true) (hdecl : (T k).1 = J.1) (hd : parseFieldDescriptor (T k).2.2.1 = some ty) (hnw : narrow ty v = v) (hft : fits ty v = true) (hl0 : k < fs.length) (hs : ws.set i (a, .inr (ci, fs.set k v)) = ws2) (hn : pc + 3 = n) (h : VN D B cI cS J n lv st ws2 nc ns post) : VN D B cI cS J pc lv (v :: .ref a :: st) ws nc ns post := by
  subst hn
  subst hs
  intro p l e s m args below meth c C H locs ls hP hD hS hl
  obtain ⟨hx, hb, hml, hre, hown, hts, hlk, hin, hO⟩ := id C
  exact va_putF (D := D) (ci := ci) (v := v) (ty := ty) (C := Cn) (T := T) (N := N) hx hb hts hin0 ty0 hty hnm hown hO.1 hP hD hS i he hc k hk (hts _ h1) (fun _ h9 => h9) hfin hin hdecl hd hnw hft hl0 d (fun H1 locs1 hP1 hD1 hS1 => h p l e s m args below meth c C H1 locs1 ls hP1 hD1 hS1 hl)
theorem n_iast {i a N : Nat} {f : Nat → Int32} {j v : Int32} {ws2 : va_W} (d : decode J.2.1 pc = .ok (.iastore, 1)) (he : ws[i]? = some (a, .inl (cI, N, .inl f))) (hj : vp_in j N) (hs : ws.set i (a, .inl (cI, N, .inl (upd f j.toNatClampNeg v))) = ws2) (hn : pc + 1 = n) (h : VN D B cI cS J n lv st ws2 nc ns post) : VN D B cI cS J pc lv (.int v :: .int j :: .ref a :: st) ws nc ns post := by
  subst hn
  subst hs
  intro p l e s m args below meth c C H locs ls hP hD hS hl
  obtain ⟨hx, hb, hml, hre, hown, hts, hlk, hin, hO⟩ := id C
  exact va_iast hx hb hO.1 hP hD hS i 0 he rfl hj d (fun H1 locs1 hP1 hD1 hS1 => h p l e s m args below meth c C H1 locs1 ls hP1 hD1 hS1 hl)
theorem n_astq {i a N ii vv : Nat} {f : Nat → Option Nat} {j : Int32} {fs : List Value} {ws2 : va_W} (d : decode J.2.1 pc = .ok (.aastore, 1)) (he : ws[i]? = some (a, .inl (cS, N, .inr (.inr (.inr (.inr f)))))) (hv : ws[ii]? = some (vv, .inr (2, fs))) (hj : vp_in j N) (hs : ws.set i (a, .inl (cS, N, .inr (.inr (.inr (.inr (va_up f j.toNatClampNeg (some vv))))))) = ws2) (hn : pc + 1 = n) (h : VN D B cI cS J n lv st ws2 nc ns post) : VN D B cI cS J pc lv (.ref vv :: .int j :: .ref a :: st) ws nc ns post := by
  subst hn
  subst hs
  intro p l e s m args below meth c C H locs ls hP hD hS hl
  obtain ⟨hx, hb, hml, hre, hown, hts, hlk, hin, hO⟩ := id C
  exact va_astq (r := (RX2, TX2, 4)) hx hb hO.1 hP hD hS i 1 ii 2 he rfl hv rfl hj d (fun H1 locs1 hP1 hD1 hS1 => h p l e s m args below meth c C H1 locs1 ls hP1 hD1 hS1 hl)
theorem n_getR {ci idx N i k a : Nat} {Cn : String} {T : u_T} {fs : List Value} {v : Value} (d : decode J.2.1 pc = .ok (.getfield idx, 3)) (he : ws[i]? = some (a, .inr (ci, fs))) (hc : vwCl[ci]? = some (Cn, T, N)) (hin0 : ∀ w ∈ u_ws Cn T N, w ∈ TB) (hk : k < N) (h1 : Cond.fieldLink J.1 idx (T k).1 (T k).2.1 (T k).2.2.1 ∈ TB) (hv : fs[k]? = some v) (hn : pc + 3 = n) (h : VN D B cI cS J n lv (v :: st) ws nc ns post) : VN D B cI cS J pc lv (.ref a :: st) ws nc ns post := by
  subst hn
  intro p l e s m args below meth c C H locs ls hP hD hS hl
  obtain ⟨hx, hb, hml, hre, hown, hts, hlk, hin, hO⟩ := id C
  exact va_get (D := D) (ci := ci) (v := v) (C := Cn) (T := T) (N := N) hx hb hts hin0 hown hO.1 hP i he hc k hk (hts _ h1) (fun _ h9 => h9) hv d (h p l e s m args below meth c C H locs ls hP hD hS hl)
theorem n_ret (d : decode J.2.1 pc = .ok (.return_, 1)) (hp : post ws) (h1 : nc = J.2.2.2.2.cells) (h2 : ns = J.2.2.2.2.slots) : VN D B cI cS J pc lv [] ws nc ns post := by
  intro p l e s m args below meth c C H locs ls hP hD hS hl
  obtain ⟨hx, hb, hml, hre, hown, hts, hlk, hin, hO⟩ := id C
  subst h1
  subst h2
  exact W.vret hx hb hre (fun t ht hW => ⟨⟨rfl, ws, hp, by rw [ht]; exact hP, hD⟩, hS.F ht⟩) hS.2.2 d hlk
theorem n_callW {p : Program} {l : Launch} {e : Env} {R : Room} {s : State} {m : MethodId} {args : Array Value} {below : List Frame} {meth : Method} {c : Code} {H : Heap} {locs : List Loc} {cells slots mc ms : Nat} {Q : State → Prop} {po : va_W → Prop} {pc : Nat} {ls : Array Slot} {st0 rest : List Value} {a : Array Value}
    (hr : va_Run p l e R s m args below meth c H locs cells slots mc ms (F0 m pc ls st0) rest (nPost D B po a) (gB B)) (hS : va_S (gB B) s.heap H locs)
    (kk : ∀ (H1 : Heap) (locs1 : List Loc) (w1 : va_W), po w1 → va_P D vwCl w1 H1 → va_D (gB B) w1 → va_S (gB B) s.heap H1 locs1 → W p l e R s m args below meth c H1 locs1 (cells + mc) (slots + ms) Q (F0 m (pc + 3) ls rest)) : W p l e R s m args below meth c H locs cells slots Q (F0 m pc ls st0) := by
  intro T hT X
  obtain ⟨v, st₀, t, T', L, h0, X', hL, e1, e2, ⟨⟨hv, w1, hp, hpp, hdd⟩, hz, hk⟩, st⟩ := hr T hT X
  cases hv
  rw [h0] at hz hk
  obtain ⟨t2, a1, b1⟩ := kk T'.heap (locs ++ L) w1 hp (by rw [e1]; exact hpp) hdd
    ⟨Nat.le_trans hS.1 (by rw [e1]; exact hz), fun q h1 h2 => by rw [e1, hk q (Nat.lt_of_lt_of_le h1 hS.1) h2]; exact hS.2.1 q h1 h2, fun q hq => by
      rcases List.mem_append.mp hq with h | h
      · exact hS.2.2 q h
      · exact hL q h⟩ T' rfl X'
  exact ⟨t2, st t2 a1, b1⟩
theorem n_call {J2 : MD} {y : MethodName} {idx q : Nat} {po : va_W → Prop} (d : decode J.2.1 pc = .ok (.invokespecial idx, 3)) (hM : GN D B cI cS J2 y [.ref q] ws po) (hown2 : J.1 = "BookPairs") (hm : (idx, y) ∈ mns) (h1 : Cond.code y J2.2.1 J2.2.2.1 none ∈ TB) (hrt : J2.2.2.2.1 = none) (h2 : Cond.instanceMethod y ∈ TB) (h3 : Cond.initialized y.cls ∈ TB) (hi : y.name = "<init>") (hd : y.cls ≠ "java/lang/invoke/MethodHandle" ∧ y.cls ≠ "java/lang/invoke/VarHandle" ∧ (parseMethodDescriptor y.desc).map (fun d => d.parameters.length) = some 0) (hW : (st.map fun v => v.category).sum ≤ 8)
    (hR : J2.2.2.2.2.frames + 1 ≤ J.2.2.2.2.frames ∧ 8 + (J2.2.2.1 + 11) + J2.2.2.2.2.locals ≤ J.2.2.2.2.locals) (hcc : nc + J2.2.2.2.2.cells ≤ J.2.2.2.2.cells) (hss : ns + J2.2.2.2.2.slots ≤ J.2.2.2.2.slots) (hn : pc + 3 = n) (h : ∀ w1, po w1 → VN D B cI cS J n lv st w1 (nc + J2.2.2.2.2.cells) (ns + J2.2.2.2.2.slots) post) : VN D B cI cS J pc lv (.ref q :: st) ws nc ns post := by
  subst hn
  intro p l e s m args below meth c C H locs ls hP hD hS hl
  obtain ⟨hx, hb, hml, hre, hown, hts, hlk, hin, hO⟩ := id C
  have hG : GoodIn TB (gWs J2 y) := gWs_good (by rw [hrt]; exact h1)
  have run := va_runIN (host := "BookPairs") (As := []) (rest := st) (b := q) (g := F0 m pc ls (.ref q :: st)) (locs := locs) (cells := nc) (slots := ns) (e := e) (below := below) (meth := meth) ⟨hx, hb, hml, hown, hts⟩ (hM l) ⟨va_cnB (R := J.2.2.2.2) (bytes := J2.2.1) (maxL := J2.2.2.1) (ret := none) 0 hts hG (by rw [gWs, hrt]) rfl rfl (by rw [hown2]; exact hO.2.2.1 _ hm) (hts _ h3) hd hR, hi, hts _ h2⟩ ⟨nBlind, fun U hU hWm => ⟨rfl, by rw [hU]; exact hP, hD, nOK_to hO hWm hS hU⟩⟩ rfl rfl hl.1 rfl (lv_room hW) d ⟨hcc, hss⟩
  exact n_callW run hS (fun H1 locs1 w1 hpo hP1 hD1 hS1 => h w1 hpo p l e s m args below meth c C H1 locs1 ls hP1 hD1 hS1 hl)
end NR
