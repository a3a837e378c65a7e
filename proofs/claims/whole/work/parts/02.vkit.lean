abbrev Mem : Type := Nat → Nat → Int32
abbrev CSh : Type := (Nat ⊕ List Nat) ⊕ (Nat × List (Option Nat))
def fO (ci c : Nat) : List (Option Nat) := match ci with
  | 0 => [some (c + 1), some (c + 2), some (c + 3), some (c + 4), some (c + 5), some (c + 6), some (c + 7), some (c + 8), none, none, none]
  | 1 => [some (c + 1), some (c + 2), some (c + 3), some (c + 4), some (c + 5), none, none, none, none, none]
  | 2 => [some (c + 1), none, none, none]
  | 3 => [none]
  | 4 => [some 1, some 2, some 8, some 14, some 23, some 32, some 33, some 34, none, none, none, none]
  | _ => [none, none, some 44, some 45, some 46, none, none, none, none, none, some 47, some 48, some 49, some 50, some 51, none, none, none, some 52, some 53, some 54, some 55, some 56, some 57, none, some 58, some 59, some 60, some 61, none, some 62, some 63]
def sh : List CSh := [.inr (4, fO 4 0), .inl (.inr [35, 37, 39, 41]),
  .inr (1, fO 1 2), .inl (.inl 7), .inl (.inl 7), .inl (.inl 7), .inl (.inl 7), .inl (.inl 7),
  .inr (1, fO 1 8), .inl (.inl 7), .inl (.inl 7), .inl (.inl 7), .inl (.inl 7), .inl (.inl 7),
  .inr (0, fO 0 14), .inl (.inl 320), .inl (.inl 64), .inl (.inl 64), .inl (.inl 64), .inl (.inl 64), .inl (.inl 14), .inl (.inl 14), .inl (.inl 14),
  .inr (0, fO 0 23), .inl (.inl 320), .inl (.inl 64), .inl (.inl 64), .inl (.inl 64), .inl (.inl 64), .inl (.inl 14), .inl (.inl 14), .inl (.inl 14),
  .inr (3, fO 3 32), .inl (.inl 8), .inl (.inl 8),
  .inr (2, fO 2 35), .inl (.inl 60), .inr (2, fO 2 37), .inl (.inl 60), .inr (2, fO 2 39), .inl (.inl 60), .inr (2, fO 2 41), .inl (.inl 60),
  .inr (5, fO 5 43), .inl (.inl 4), .inl (.inl 4), .inl (.inl 240), .inl (.inl 7), .inl (.inl 7), .inl (.inl 7), .inl (.inl 7), .inl (.inl 7),
  .inl (.inl 7), .inl (.inl 14), .inl (.inl 14), .inl (.inl 64), .inl (.inl 64), .inl (.inl 64), .inl (.inl 14), .inl (.inl 14), .inl (.inl 14), .inl (.inl 17), .inl (.inl 8), .inl (.inl 8)]
theorem sh_len : sh.length = 64 := rfl
abbrev isO (c ci : Nat) : Prop := sh[c]? = some (.inr (ci, fO ci c))
abbrev isA (c n : Nat) : Prop := sh[c]? = some (.inl (.inl n))
abbrev GG : Type := va_G × (Nat → Nat) × ClassId × ClassId × Nat × (Nat → Nat)
def gF (G : GG) (μ : Mem) (c : Nat) (fs : List (Option Nat)) : List Value := fs.mapIdx (fun i f => match f with | none => Value.int (μ c i) | some q => Value.ref (G.2.1 q))
def gE (G : GG) (μ : Mem) (c : Nat) (x : CSh) : va_E := match x with
  | .inl (.inl n) => .inl (G.2.2.1, n, .inl (μ c))
  | .inl (.inr rs) => .inl (G.2.2.2.1, rs.length, .inr (.inr (.inr (.inr (fun j => (rs[j]?).map G.2.1)))))
  | .inr o => .inr (o.1, gF G μ c o.2)
def gW (G : GG) (μ : Mem) : va_W := sh.mapIdx (fun c x => (G.2.1 c, gE G μ c x))
theorem gW_at {G : GG} {μ : Mem} {c : Nat} {x : CSh} (h : sh[c]? = some x) : (gW G μ)[c]? = some (G.2.1 c, gE G μ c x) := by
  rw [gW, List.getElem?_mapIdx, h]; rfl
theorem gF_I {G : GG} {μ : Mem} {c i : Nat} {fs : List (Option Nat)} (h : fs[i]? = some none) : (gF G μ c fs)[i]? = some (.int (μ c i)) := by
  rw [gF, List.getElem?_mapIdx, h]; rfl
theorem gF_R {G : GG} {μ : Mem} {c i q : Nat} {fs : List (Option Nat)} (h : fs[i]? = some (some q)) : (gF G μ c fs)[i]? = some (.ref (G.2.1 q)) := by
  rw [gF, List.getElem?_mapIdx, h]; rfl
theorem gF_len {G : GG} {μ : Mem} {c : Nat} {fs : List (Option Nat)} : (gF G μ c fs).length = fs.length := by rw [gF, List.length_mapIdx]
def up (μ : Mem) (c i : Nat) (v : Int32) : Mem := fun a b => if a = c ∧ b = i then v else μ a b
def cpm (μ : Mem) (c0 sp c1 dp n : Nat) : Mem := fun a b => if a = c1 then va_cpy (μ c0) (μ c1) sp dp n b else μ a b
theorem gE_ne {G : GG} {μ ν : Mem} {c : Nat} (h : ν c = μ c) (x : CSh) : gE G ν c x = gE G μ c x := by
  match x with
  | .inl (.inl n) => simp only [gE, h]
  | .inl (.inr rs) => rfl
  | .inr o => simp only [gE, gF, h]
theorem gW_set {G : GG} {μ ν : Mem} {c : Nat} {x : CSh} {z : va_E} (hc : sh[c]? = some x) (h : ∀ a, a ≠ c → ν a = μ a) (hz : gE G ν c x = z) : gW G ν = (gW G μ).set c (G.2.1 c, z) := by
  apply List.ext_getElem?
  intro k
  by_cases hk : k = c
  · subst hk
    rw [gW_at hc, List.getElem?_set_self (by rw [gW, List.length_mapIdx]; exact (List.getElem?_eq_some_iff.mp hc).1), hz]
  · rw [List.getElem?_set_ne (Ne.symm hk), gW, gW, List.getElem?_mapIdx, List.getElem?_mapIdx]
    cases hs : sh[k]? with
    | none => rfl
    | some y => simp only [Option.map_some, gE_ne (h k hk)]
theorem gW_upF {G : GG} {μ : Mem} {c ci i : Nat} {fs : List (Option Nat)} {v : Int32} (hc : sh[c]? = some (.inr (ci, fs))) (hf : fs[i]? = some none) : gW G (up μ c i v) = (gW G μ).set c (G.2.1 c, .inr (ci, (gF G μ c fs).set i (.int v))) := by
  refine gW_set hc (fun a ha => by funext b; simp [up, ha]) ?_
  show Sum.inr (ci, gF G (up μ c i v) c fs) = _
  congr 2
  apply List.ext_getElem?
  intro k
  by_cases hk : k = i
  · subst hk
    rw [gF_I hf, List.getElem?_set_self (by rw [gF_len]; exact (List.getElem?_eq_some_iff.mp hf).1)]
    simp [up]
  · rw [List.getElem?_set_ne (Ne.symm hk), gF, gF, List.getElem?_mapIdx, List.getElem?_mapIdx]
    cases hs : fs[k]? with
    | none => rfl
    | some y => cases y <;> simp [up, hk]
theorem gW_upA {G : GG} {μ : Mem} {c n i : Nat} {v : Int32} (hc : isA c n) : gW G (up μ c i v) = (gW G μ).set c (G.2.1 c, .inl (G.2.2.1, n, .inl (upd (μ c) i v))) := by
  refine gW_set hc (fun a ha => by funext b; simp [up, ha]) ?_
  show Sum.inl (G.2.2.1, n, Sum.inl (up μ c i v c)) = _
  congr 4
  funext b
  simp [up, upd]
theorem gW_cpm {G : GG} {μ : Mem} {c0 c1 n sp dp k : Nat} (hc : isA c1 n) : gW G (cpm μ c0 sp c1 dp k) = (gW G μ).set c1 (G.2.1 c1, .inl (G.2.2.1, n, .inl (va_cpy (μ c0) (μ c1) sp dp k))) := by
  refine gW_set hc (fun a ha => by funext b; simp [cpm, ha]) ?_
  show Sum.inl (G.2.2.1, n, Sum.inl (cpm μ c0 sp c1 dp k c1)) = _
  congr 4
  funext b
  simp [cpm]
def gA (G : GG) : Nat → Prop := fun q => G.2.2.2.2.1 ≤ q
def gT (G : GG) : List (ClassId × FieldType) := [(G.2.2.1, .int), (G.2.2.2.1, .object "BookPairs$Sheet")]
def snm (j : Nat) : String := match j with
  | 0 => "LEFTS_OF_SORT"
  | 1 => "RIGHTS_OF_SORT"
  | _ => "STEP_OF_SORT"
def stv (j i : Nat) : Int32 := match j with
  | 0 => ([1, 1, 0, 2, 1] : List Int32).getD i 0
  | 1 => ([1, 0, 1, 1, 2] : List Int32).getD i 0
  | _ => ([9, 8, 1, 17, 10] : List Int32).getD i 0
def nsts : List (String × Nat × Nat) := [("BookPairs$Books", 60, 0), ("BookPairs$Books", 63, 1), ("BookPairs$Aligner", 89, 2), ("BookPairs$Aligner", 106, 0), ("BookPairs$Aligner", 112, 1)]
def gDD (G : GG) : Prop := (∀ i j : Nat, i < 64 → j < 64 → G.2.1 i = G.2.1 j → i = j) ∧ ∀ i : Nat, i < 64 → G.2.2.2.2.1 ≤ G.2.1 i
def gST (G : GG) (U : State) (H : Heap) : Prop := ∀ j : Nat, j < 3 → va_Z "BookPairs" (snm j) "[I" (.ref (G.2.2.2.2.2 j)) (gA G) U H ∧ va_T .int (G.2.2.2.2.2 j) 5 (fun i => .int (stv j i)) (gA G) U H
def gNW (U : State) : Prop := ∀ q ∈ nsts, va_Nw (.fieldLinkNest q.1 q.2.1 "BookPairs" (snm q.2.2) "[I" "BookPairs") U
def gOK (G : GG) (U : State) (H : Heap) : Prop := va_K G.1 vwCl (gT G) U ∧ gDD G ∧ gST G U H ∧ gNW U
theorem gD_of {G : GG} {μ : Mem} (h : gDD G) : va_D (gA G) (gW G μ) := by
  have key : ∀ (i : Nat) (q : Nat × va_E), (gW G μ)[i]? = some q → i < 64 ∧ q.1 = G.2.1 i := by
    intro i q hq
    have hl := (List.getElem?_eq_some_iff.mp hq).1
    rw [gW, List.length_mapIdx, sh_len] at hl
    refine ⟨hl, ?_⟩
    rw [gW, List.getElem?_mapIdx] at hq
    cases hs : sh[i]? with
    | none => rw [hs] at hq; cases hq
    | some x => rw [hs] at hq; cases hq; rfl
  refine ⟨fun i j p q hi hj hpq => ?_, fun k q hk => ?_⟩
  · obtain ⟨a1, a2⟩ := key i p hi
    obtain ⟨b1, b2⟩ := key j q hj
    exact h.1 i j a1 b1 (by rw [← a2, ← b2]; exact hpq)
  · obtain ⟨a1, a2⟩ := key k q hk
    rw [gA, a2]
    exact h.2 k a1
theorem gOK_to {G : GG} {s U : State} {H : Heap} {locs : List Loc} (h : gOK G s s.heap) (hW : s.WarmedH U.vm) (hS : va_S (gA G) s.heap H locs) : gOK G U H := by
  refine ⟨va_K.moved hW.alike h.1, h.2.1, fun j hj => ?_, fun q hq => va_Nw.warmF hW (h.2.2.2 q hq)⟩
  obtain ⟨a, b⟩ := h.2.2.1 j hj
  exact ⟨(va_Z.moved hW.alike a).kept (fun q h1 h2 => hS.2.1 q h1 h2), (va_T.moved hW.alike b).kept (fun q h1 h2 => hS.2.1 q h1 h2)⟩
theorem gOK_same {G : GG} {s U : State} {H : Heap} (h : gOK G s H) (hv : s.vm = U.vm) : gOK G U H := by
  have ha : s.vm.Alike U.vm := by rw [hv]; exact Vm.Alike.refl _
  refine ⟨va_K.moved ha h.1, h.2.1, fun j hj => ?_, fun q hq => va_Nw.same rfl hv (h.2.2.2 q hq)⟩
  obtain ⟨a, b⟩ := h.2.2.1 j hj
  exact ⟨va_Z.moved ha a, va_T.moved ha b⟩
abbrev MD : Type := String × ByteArray × Nat × Option FieldType × Room
abbrev Oc : Type := Option Value × Mem
def gPre (G : GG) (av : List Value) (μ : Mem) : Array Value → State → Prop := va_Pc av (fun U => va_P G.1 vwCl (gW G μ) U.heap ∧ gOK G U U.heap)
def gPost (G : GG) (o : Oc) : Array Value → State → Outcome → State → Prop := fun _ st oc t => oc = .returned o.1 ∧ va_P G.1 vwCl (gW G o.2) t.heap ∧ va_F (gA G) st t
def gWs (J : MD) (y : MethodName) : List Cond := Cond.code y J.2.1 J.2.2.1 J.2.2.2.1 :: TB
def GM (G : GG) (J : MD) (y : MethodName) (av : List Value) (μ : Mem) (o : Oc) : Prop := ∀ l : Launch, Met l y (gWs J y) J.2.2.2.2 (gPre G av μ) (gPost G o) 0 0 (gA G)
theorem gBlind {G : GG} {av : List Value} {μ : Mem} : FrameBlind (gPre G av μ) := by
  intro a U g mk h
  exact ⟨h.1, h.2.1, gOK_same h.2.2 rfl⟩
def gCtx (G : GG) (J : MD) (p : Program) (s : State) (m : MethodId) (args : Array Value) (meth : Method) (c : Code) : Prop :=
  p.tables.exec = Jvm.exec ∧ c.code = J.2.1 ∧ c.maxLocals = J.2.2.1 ∧ meth.sig.returnType = J.2.2.2.1 ∧ s.vm.findClass J.1 = some m.cls ∧ (∀ w ∈ TB, w.before args s = true) ∧ meth.locks = false ∧ gOK G s s.heap
def V (G : GG) (J : MD) (pc : Nat) (lv : List (Nat × Value)) (st : List Value) (μ : Mem) {R : Type} (x : Option R) (k : R → Option Oc) : Prop :=
  ∀ r, x = some r → ∀ o, k r = some o → ∀ (p : Program) (l : Launch) (e : Env) (s : State) (m : MethodId) (args : Array Value) (below : List Frame) (meth : Method) (c : Code), gCtx G J p s m args meth c → ∀ (H : Heap) (locs : List Loc) (ls : Array Slot), va_P G.1 vwCl (gW G μ) H → va_S (gA G) s.heap H locs → lv_has ls J.2.2.1 lv →
    W p l e J.2.2.2.2 s m args below meth c H locs 0 0 (MQ below (gPost G o) args s 0 0 (gA G)) (F0 m pc ls st)
theorem gm_of {G : GG} {J : MD} {y : MethodName} {av : List Value} {μ : Mem} {R : Type} {x : Option R} {k : R → Option Oc} {t : R} {o : Oc} (hc : J.1 = y.cls) (hp : plainName y.cls = true) (hl : (lg_sl av).length ≤ J.2.2.1) (h : V G J 0 (lv_args 0 av) [] μ x k) (hx : x = some t) (hk : k t = some o) : GM G J y av μ o := by
  intro l
  refine Met.ofW (cc := J.2.1) (maxL := J.2.2.1) (ret := J.2.2.2.1) hp rfl ?_
  intro p e s m args below meth c s₁ B hml hv
  obtain ⟨rfl, hP, hO⟩ := hv
  have hts := atoms_spec (ws := gWs J y) B.pre
  have hl2 := lv_entry av hl
  rw [lg_entry_eq]
  exact h t hx o hk p l e s m _ below meth c ⟨B.exec, B.bytes, hml, B.returns, by rw [hc]; exact findClass_of_methodNamed B.named, fun w hw => hts w (List.mem_cons_of_mem _ hw), B.notSynchronized, hO⟩ s.heap [] _ hP va_S.rf hl2
def ck {R : Type} (b : Bool) (x : Option R) : Option R := if b = true then x else none
def lt {α R : Type} (e : α) (f : α → Option R) : Option R := f e
def inb (i : Int32) (n : Nat) : Bool := decide (¬ (i < 0 ∨ n ≤ i.toNatClampNeg))
theorem inb_vp {i : Int32} {n : Nat} (h : inb i n = true) : vp_in i n := by simpa [inb, vp_in] using h
def b1 {A R : Type} (x : Option A) (f : A → Option R) : Option R := x.bind f
def b2 {A B R : Type} (x : Option (A × B)) (f : A → B → Option R) : Option R := x.bind (fun p => f p.1 p.2)
def b3 {A B C R : Type} (x : Option (A × B × C)) (f : A → B → C → Option R) : Option R := x.bind (fun p => f p.1 p.2.1 p.2.2)
def b4 {A B C D R : Type} (x : Option (A × B × C × D)) (f : A → B → C → D → Option R) : Option R := x.bind (fun p => f p.1 p.2.1 p.2.2.1 p.2.2.2)
def b5 {A B C D E R : Type} (x : Option (A × B × C × D × E)) (f : A → B → C → D → E → Option R) : Option R := x.bind (fun p => f p.1 p.2.1 p.2.2.1 p.2.2.2.1 p.2.2.2.2)
def bs {A O R : Type} (x : Option (A ⊕ O)) (f : A → Option R) (g : O → Option R) : Option R := x.bind (fun p => match p with | .inl a => f a | .inr b => g b)
def bo (v : Int32) : Bool := decide (narrow .boolean (.int v) = Value.int v)
def shc (i : Int32) : Nat := 35 + 2 * i.toNatClampNeg
def oI (t : Int32 × Mem) : Oc := (some (.int t.1), t.2)
def oL (t : Int64 × Mem) : Oc := (some (.long t.1), t.2)
def oV (t : Mem) : Oc := (none, t)
def oA (G : GG) (t : Mem) : Oc := (some (.ref (G.2.1 14)), t)
def kI (t : Int32 × Mem) : Option Oc := some (oI t)
def kL (t : Int64 × Mem) : Option Oc := some (oL t)
def kV (t : Mem) : Option Oc := some (oV t)
def kA (G : GG) (t : Mem) : Option Oc := some (oA G t)
def gFld (own : String) (idx ci i : Nat) : Prop := ∃ (C : String) (T : u_T) (N : Nat) (ref : String), vwCl[ci]? = some (C, T, N) ∧ i < N ∧ (∀ w ∈ u_ws C T N, w ∈ TB) ∧ Cond.fieldLink own idx ref (T i).2.1 (T i).2.2.1 ∈ TB ∧ ∀ (s : State) (x : ClassId × Class × Nat × Field), s.fieldFound? (T i).1 (T i).2.1 (T i).2.2.1 = some x → s.fieldFound? ref (T i).2.1 (T i).2.2.1 = some x
def gPut (own : String) (idx ci i : Nat) (ty : FieldType) : Prop := ∃ (C : String) (T : u_T) (N : Nat) (ref : String) (ty0 : Nat → FieldType), vwCl[ci]? = some (C, T, N) ∧ i < N ∧ (∀ w ∈ u_ws C T N, w ∈ TB) ∧ Cond.fieldLink own idx ref (T i).2.1 (T i).2.2.1 ∈ TB ∧ (∀ (s : State) (x : ClassId × Class × Nat × Field), s.fieldFound? (T i).1 (T i).2.1 (T i).2.2.1 = some x → s.fieldFound? ref (T i).2.1 (T i).2.2.1 = some x) ∧ (∀ k, k < N → parseFieldDescriptor (T k).2.2.1 = some (ty0 k)) ∧ (∀ a, a < N → ∀ b, b < N → a ≠ b → (T a).2.1 ≠ (T b).2.1) ∧ (T i).2.2.2 = false ∧ parseFieldDescriptor (T i).2.2.1 = some ty
def gCal (J : MD) (y : MethodName) (ci n : Nat) : Prop := (∃ (T : u_T) (N : Nat), vwCl[ci]? = some (y.cls, T, N)) ∧ Cond.code y J.2.1 J.2.2.1 J.2.2.2.1 ∈ TB ∧ Cond.instanceMethod y ∈ TB ∧ Cond.selects y.cls y y ∈ TB ∧ Cond.initialized y.cls ∈ TB ∧ J.2.2.2.2.cells = 0 ∧ J.2.2.2.2.slots = 0 ∧ y.cls ≠ "java/lang/invoke/MethodHandle" ∧ y.cls ≠ "java/lang/invoke/VarHandle" ∧ (parseMethodDescriptor y.desc).map (fun d => d.parameters.length) = some n
def gCalS (J : MD) (y : MethodName) (n : Nat) : Prop := Cond.code y J.2.1 J.2.2.1 J.2.2.2.1 ∈ TB ∧ Cond.static y ∈ TB ∧ Cond.initialized y.cls ∈ TB ∧ J.2.2.2.2.cells = 0 ∧ J.2.2.2.2.slots = 0 ∧ y.cls ≠ "java/lang/invoke/MethodHandle" ∧ y.cls ≠ "java/lang/invoke/VarHandle" ∧ (parseMethodDescriptor y.desc).map (fun d => d.parameters.length) = some n
theorem gWs_good {J : MD} {y : MethodName} (h : Cond.code y J.2.1 J.2.2.1 J.2.2.2.1 ∈ TB) : GoodIn TB (gWs J y) := by
  intro w hw
  rcases List.mem_cons.mp hw with rfl | hw
  · exact TB_good _ h
  · exact TB_good _ hw
