theorem nw67 : Cond.instantiable "BookPairs" 12 ∈ TB := tb1 11 (by decide +kernel) (by decide +kernel)
theorem nw68 : Cond.instantiable "BookPairsModel" 32 ∈ TB := tb3 84 (by decide +kernel) (by decide +kernel)
theorem nw69 : Cond.initialized "BookPairs" ∈ TB := tb1 1 (by decide +kernel) (by decide +kernel)
theorem nw70 : Cond.classLink "BookPairsLaw" 7 "BookPairs" ∈ TB := tb1 10 (by decide +kernel) (by decide +kernel)
theorem nw71 : Cond.methodLink "BookPairsLaw" 9 ⟨"BookPairs", "<init>", "()V"⟩ ∈ TB := tb1 12 (by decide +kernel) (by decide +kernel)
theorem nw72 : Cond.instanceMethod ⟨"BookPairs", "<init>", "()V"⟩ ∈ TB := tb1 13 (by decide +kernel) (by decide +kernel)
theorem nw73 : Cond.classLink "BookPairsLaw" 10 "BookPairsModel" ∈ TB := tb3 83 (by decide +kernel) (by decide +kernel)
theorem nw74 : Cond.initialized "BookPairsModel" ∈ TB := tb1 6 (by decide +kernel) (by decide +kernel)
theorem nw75 : Cond.methodLink "BookPairsLaw" 12 ⟨"BookPairsModel", "<init>", "()V"⟩ ∈ TB := tb3 85 (by decide +kernel) (by decide +kernel)
theorem nw76 : Cond.instanceMethod ⟨"BookPairsModel", "<init>", "()V"⟩ ∈ TB := tb3 86 (by decide +kernel) (by decide +kernel)
def μ0 : Mem := fun c => if c = 44 then (upd (upd (upd (upd (fun _ => 0) (0 : Int32).toNatClampNeg (-9)) (1 : Int32).toNatClampNeg (-9)) (2 : Int32).toNatClampNeg (-9)) (3 : Int32).toNatClampNeg (-9)) else fun _ => 0
theorem gP_of {G : GG} {μ : Mem} {H : Heap} (h : ∀ (k : Nat) (x : CSh), sh[k]? = some x → va_at G.1 vwCl (G.2.1 k, gE G μ k x) H) : va_P G.1 vwCl (gW G μ) H := by
  intro k q hq
  rw [gW, List.getElem?_mapIdx] at hq
  cases hs : sh[k]? with
  | none => rw [hs] at hq; cases hq
  | some x =>
    rw [hs] at hq
    cases hq
    exact h k x hs
def pmx : List Nat := [60, 61, 54, 59, 58, 57, 56, 55, 48, 53, 52, 51, 50, 49, 39, 47, 46, 45, 44, 43, 42, 41, 40, 30, 38, 37, 36, 35, 34, 33, 32, 31, 29, 62, 63, 27, 28, 25, 26, 23, 24, 21, 22, 0, 20, 19, 18, 17, 16, 15, 14, 13, 12, 11, 10, 9, 8, 7, 6, 5, 4, 3, 2, 1]
theorem pmx_inj : ∀ i, i < 64 → ∀ j, j < 64 → pmx.getD i 0 = pmx.getD j 0 → i = j := by decide +kernel
theorem st_of {args : Array Value} {s : State} (j : Nat) (hgv : (Jvm.Cond.and given_1 narrow_1).before args s = true) (hl : (Cond.laysStatic "BookPairs" (snm j) "[I").before args s = true) (hini : (Cond.initialized "BookPairs").before args s = true) (hj : j < 3) {A : Nat → Prop} (hA : ∀ a : Nat, a < s.heap.size → ¬ A a) : ∃ t : Nat, va_Z "BookPairs" (snm j) "[I" (.ref t) A s s.heap ∧ va_T .int t 5 (fun i => .int (stv j i)) A s s.heap := by
  have hs := flat_of_before _ hgv
  have key : ∃ t : Nat, (Term.static "BookPairs" (snm j) "[I").eval args s none [] s = some (.ref t) ∧ va_T .int t 5 (fun i => .int (stv j i)) A s s.heap := by
    match j, hj with
    | 0, _ =>
      refine va_Tof (tm := .static "BookPairs" "LEFTS_OF_SORT" "[I") (by decide) (hs _ (by decide +kernel)) (va_eqt (z := 5) (hs _ (by decide +kernel))) (fun i hi => ?_) hA
      match i, hi with
      | 0, _ => exact va_eqt (z := 1) (hs _ (by decide +kernel))
      | 1, _ => exact va_eqt (z := 1) (hs _ (by decide +kernel))
      | 2, _ => exact va_eqt (z := 0) (hs _ (by decide +kernel))
      | 3, _ => exact va_eqt (z := 2) (hs _ (by decide +kernel))
      | 4, _ => exact va_eqt (z := 1) (hs _ (by decide +kernel))
      | i + 5, h => exact absurd h (by omega)
    | 1, _ =>
      refine va_Tof (tm := .static "BookPairs" "RIGHTS_OF_SORT" "[I") (by decide) (hs _ (by decide +kernel)) (va_eqt (z := 5) (hs _ (by decide +kernel))) (fun i hi => ?_) hA
      match i, hi with
      | 0, _ => exact va_eqt (z := 1) (hs _ (by decide +kernel))
      | 1, _ => exact va_eqt (z := 0) (hs _ (by decide +kernel))
      | 2, _ => exact va_eqt (z := 1) (hs _ (by decide +kernel))
      | 3, _ => exact va_eqt (z := 1) (hs _ (by decide +kernel))
      | 4, _ => exact va_eqt (z := 2) (hs _ (by decide +kernel))
      | i + 5, h => exact absurd h (by omega)
    | 2, _ =>
      refine va_Tof (tm := .static "BookPairs" "STEP_OF_SORT" "[I") (by decide) (hs _ (by decide +kernel)) (va_eqt (z := 5) (hs _ (by decide +kernel))) (fun i hi => ?_) hA
      match i, hi with
      | 0, _ => exact va_eqt (z := 9) (hs _ (by decide +kernel))
      | 1, _ => exact va_eqt (z := 8) (hs _ (by decide +kernel))
      | 2, _ => exact va_eqt (z := 1) (hs _ (by decide +kernel))
      | 3, _ => exact va_eqt (z := 17) (hs _ (by decide +kernel))
      | 4, _ => exact va_eqt (z := 10) (hs _ (by decide +kernel))
      | i + 5, h => exact absurd h (by omega)
    | j + 3, h => exact absurd h (by omega)
  obtain ⟨t, h1, h2⟩ := key
  exact ⟨t, va_Zref hl hini h1 hA, h2⟩
def gFx (G : GG) (μ : Mem) (c : Nat) : Nat → List (Option Nat) → List Value
  | _, [] => []
  | i, none :: r => .int (μ c i) :: gFx G μ c (i + 1) r
  | i, some q :: r => .ref (G.2.1 q) :: gFx G μ c (i + 1) r
theorem gFx_at (G : GG) (μ : Mem) (c : Nat) : ∀ (fs : List (Option Nat)) (i k : Nat), (gFx G μ c i fs)[k]? = (fs[k]?).map (fun f => match f with | none => Value.int (μ c (i + k)) | some q => Value.ref (G.2.1 q))
  | [], _, _ => by simp [gFx]
  | none :: r, i, 0 => rfl
  | some q :: r, i, 0 => rfl
  | none :: r, i, k + 1 => by
    show (gFx G μ c (i + 1) r)[k]? = _
    rw [gFx_at G μ c r (i + 1) k, show i + 1 + k = i + (k + 1) by omega]; rfl
  | some q :: r, i, k + 1 => by
    show (gFx G μ c (i + 1) r)[k]? = _
    rw [gFx_at G μ c r (i + 1) k, show i + 1 + k = i + (k + 1) by omega]; rfl
theorem gE_obj (G : GG) (μ : Mem) (c ci : Nat) (fs : List (Option Nat)) : gE G μ c (.inr (ci, fs)) = .inr (ci, gFx G μ c 0 fs) := by
  show Sum.inr (ci, gF G μ c fs) = _
  congr 2
  apply List.ext_getElem?
  intro k
  rw [gFx_at, gF, List.getElem?_mapIdx]
  cases fs[k]? with
  | none => rfl
  | some f => cases f <;> simp
def shf (a : Nat → Nat) : Nat → Option Nat := (va_up (va_up (va_up (va_up (fun _ => none) (0 : Int32).toNatClampNeg (some (a 35))) (1 : Int32).toNatClampNeg (some (a 37))) (2 : Int32).toNatClampNeg (some (a 39))) (3 : Int32).toNatClampNeg (some (a 41)))
theorem shf_eq (a : Nat → Nat) : shf a = (fun j => (([35, 37, 39, 41] : List Nat)[j]?).map a) := by
  funext j
  match j with
  | 0 => rfl
  | 1 => rfl
  | 2 => rfl
  | 3 => rfl
  | j + 4 =>
    simp [shf, va_up, show (0 : Int32).toNatClampNeg = 0 by decide, show (1 : Int32).toNatClampNeg = 1 by decide, show (2 : Int32).toNatClampNeg = 2 by decide, show (3 : Int32).toNatClampNeg = 3 by decide]
def WLf (cI cS : ClassId) (a : Nat → Nat) : va_W := [((a 43), .inr (5, [.int 0, .int 0, .ref (a 44), .ref (a 45), .ref (a 46), .int 0, .int 0, .int 0, .int 0, .int 0, .ref (a 47), .ref (a 48), .ref (a 49), .ref (a 50), .ref (a 51), .int 0, .int 0, .int 0, .ref (a 52), .ref (a 53), .ref (a 54), .ref (a 55), .ref (a 56), .ref (a 57), .int 0, .ref (a 58), .ref (a 59), .ref (a 60), .ref (a 61), .int 0, .ref (a 62), .ref (a 63)])), ((a 63), .inl (cI, 8, .inl (fun _ => 0))), ((a 62), .inl (cI, 8, .inl (fun _ => 0))), ((a 61), .inl (cI, 17, .inl (fun _ => 0))), ((a 60), .inl (cI, 14, .inl (fun _ => 0))), ((a 59), .inl (cI, 14, .inl (fun _ => 0))), ((a 58), .inl (cI, 14, .inl (fun _ => 0))), ((a 57), .inl (cI, 64, .inl (fun _ => 0))), ((a 56), .inl (cI, 64, .inl (fun _ => 0))), ((a 55), .inl (cI, 64, .inl (fun _ => 0))), ((a 54), .inl (cI, 14, .inl (fun _ => 0))), ((a 53), .inl (cI, 14, .inl (fun _ => 0))), ((a 52), .inl (cI, 7, .inl (fun _ => 0))), ((a 51), .inl (cI, 7, .inl (fun _ => 0))), ((a 50), .inl (cI, 7, .inl (fun _ => 0))), ((a 49), .inl (cI, 7, .inl (fun _ => 0))), ((a 48), .inl (cI, 7, .inl (fun _ => 0))), ((a 47), .inl (cI, 7, .inl (fun _ => 0))), ((a 46), .inl (cI, 240, .inl (fun _ => 0))), ((a 45), .inl (cI, 4, .inl (fun _ => 0))), ((a 44), .inl (cI, 4, .inl (upd (upd (upd (upd (fun _ => 0) (0 : Int32).toNatClampNeg (-9)) (1 : Int32).toNatClampNeg (-9)) (2 : Int32).toNatClampNeg (-9)) (3 : Int32).toNatClampNeg (-9)))), ((a 41), .inr (2, [.ref (a 42), .int 0, .int 0, .int 0])), ((a 42), .inl (cI, 60, .inl (fun _ => 0))), ((a 39), .inr (2, [.ref (a 40), .int 0, .int 0, .int 0])), ((a 40), .inl (cI, 60, .inl (fun _ => 0))), ((a 37), .inr (2, [.ref (a 38), .int 0, .int 0, .int 0])), ((a 38), .inl (cI, 60, .inl (fun _ => 0))), ((a 35), .inr (2, [.ref (a 36), .int 0, .int 0, .int 0])), ((a 36), .inl (cI, 60, .inl (fun _ => 0))), ((a 32), .inr (3, [.int 0])), ((a 23), .inr (0, [.ref (a 24), .ref (a 25), .ref (a 26), .ref (a 27), .ref (a 28), .ref (a 29), .ref (a 30), .ref (a 31), .int 0, .int 0, .int 0])), ((a 31), .inl (cI, 14, .inl (fun _ => 0))), ((a 30), .inl (cI, 14, .inl (fun _ => 0))), ((a 29), .inl (cI, 14, .inl (fun _ => 0))), ((a 28), .inl (cI, 64, .inl (fun _ => 0))), ((a 27), .inl (cI, 64, .inl (fun _ => 0))), ((a 26), .inl (cI, 64, .inl (fun _ => 0))), ((a 25), .inl (cI, 64, .inl (fun _ => 0))), ((a 24), .inl (cI, 320, .inl (fun _ => 0))), ((a 14), .inr (0, [.ref (a 15), .ref (a 16), .ref (a 17), .ref (a 18), .ref (a 19), .ref (a 20), .ref (a 21), .ref (a 22), .int 0, .int 0, .int 0])), ((a 22), .inl (cI, 14, .inl (fun _ => 0))), ((a 21), .inl (cI, 14, .inl (fun _ => 0))), ((a 20), .inl (cI, 14, .inl (fun _ => 0))), ((a 19), .inl (cI, 64, .inl (fun _ => 0))), ((a 18), .inl (cI, 64, .inl (fun _ => 0))), ((a 17), .inl (cI, 64, .inl (fun _ => 0))), ((a 16), .inl (cI, 64, .inl (fun _ => 0))), ((a 15), .inl (cI, 320, .inl (fun _ => 0))), ((a 8), .inr (1, [.ref (a 9), .ref (a 10), .ref (a 11), .ref (a 12), .ref (a 13), .int 0, .int 0, .int 0, .int 0, .int 0])), ((a 13), .inl (cI, 7, .inl (fun _ => 0))), ((a 12), .inl (cI, 7, .inl (fun _ => 0))), ((a 11), .inl (cI, 7, .inl (fun _ => 0))), ((a 10), .inl (cI, 7, .inl (fun _ => 0))), ((a 9), .inl (cI, 7, .inl (fun _ => 0))), ((a 2), .inr (1, [.ref (a 3), .ref (a 4), .ref (a 5), .ref (a 6), .ref (a 7), .int 0, .int 0, .int 0, .int 0, .int 0])), ((a 7), .inl (cI, 7, .inl (fun _ => 0))), ((a 6), .inl (cI, 7, .inl (fun _ => 0))), ((a 5), .inl (cI, 7, .inl (fun _ => 0))), ((a 4), .inl (cI, 7, .inl (fun _ => 0))), ((a 3), .inl (cI, 7, .inl (fun _ => 0))), ((a 0), .inr (4, [.ref (a 1), .ref (a 2), .ref (a 8), .ref (a 14), .ref (a 23), .ref (a 32), .ref (a 33), .ref (a 34), .int 0, .int 0, .int 0, .int 0])), ((a 1), .inl (cS, 4, .inr (.inr (.inr (.inr (shf a)))))), ((a 33), .inl (cI, 8, .inl (fun _ => 0))), ((a 34), .inl (cI, 8, .inl (fun _ => 0)))]
set_option maxRecDepth 100000 in
theorem gfin_0 {dC : Nat → ClassId} {dI : Nat → Nat → Nat} {cI cS : ClassId} {B : Nat} {tt a : Nat → Nat} {H : Heap} (hP : va_P (dC, dI) vwCl (WLf cI cS a) H) : va_at (dC, dI) vwCl (a 0, gE ((dC, dI), a, cI, cS, B, tt) μ0 0 (.inr (4, fO 4 0))) H := by
  rw [show gE ((dC, dI), a, cI, cS, B, tt) μ0 0 _ = _ from gE_obj _ _ _ _ _]
  exact hP 60 _ rfl
set_option maxRecDepth 100000 in
theorem gfin_1 {dC : Nat → ClassId} {dI : Nat → Nat → Nat} {cI cS : ClassId} {B : Nat} {tt a : Nat → Nat} {H : Heap} (hP : va_P (dC, dI) vwCl (WLf cI cS a) H) : va_at (dC, dI) vwCl (a 1, gE ((dC, dI), a, cI, cS, B, tt) μ0 1 (.inl (.inr [35, 37, 39, 41]))) H := by
  have h := hP 61 _ rfl
  rw [shf_eq] at h
  exact h
set_option maxRecDepth 100000 in
theorem gfin_2 {dC : Nat → ClassId} {dI : Nat → Nat → Nat} {cI cS : ClassId} {B : Nat} {tt a : Nat → Nat} {H : Heap} (hP : va_P (dC, dI) vwCl (WLf cI cS a) H) : va_at (dC, dI) vwCl (a 2, gE ((dC, dI), a, cI, cS, B, tt) μ0 2 (.inr (1, fO 1 2))) H := by
  rw [show gE ((dC, dI), a, cI, cS, B, tt) μ0 2 _ = _ from gE_obj _ _ _ _ _]
  exact hP 54 _ rfl
set_option maxRecDepth 100000 in
theorem gfin_3 {dC : Nat → ClassId} {dI : Nat → Nat → Nat} {cI cS : ClassId} {B : Nat} {tt a : Nat → Nat} {H : Heap} (hP : va_P (dC, dI) vwCl (WLf cI cS a) H) : va_at (dC, dI) vwCl (a 3, gE ((dC, dI), a, cI, cS, B, tt) μ0 3 (.inl (.inl 7))) H := hP 59 _ rfl
set_option maxRecDepth 100000 in
theorem gfin_4 {dC : Nat → ClassId} {dI : Nat → Nat → Nat} {cI cS : ClassId} {B : Nat} {tt a : Nat → Nat} {H : Heap} (hP : va_P (dC, dI) vwCl (WLf cI cS a) H) : va_at (dC, dI) vwCl (a 4, gE ((dC, dI), a, cI, cS, B, tt) μ0 4 (.inl (.inl 7))) H := hP 58 _ rfl
set_option maxRecDepth 100000 in
theorem gfin_5 {dC : Nat → ClassId} {dI : Nat → Nat → Nat} {cI cS : ClassId} {B : Nat} {tt a : Nat → Nat} {H : Heap} (hP : va_P (dC, dI) vwCl (WLf cI cS a) H) : va_at (dC, dI) vwCl (a 5, gE ((dC, dI), a, cI, cS, B, tt) μ0 5 (.inl (.inl 7))) H := hP 57 _ rfl
set_option maxRecDepth 100000 in
theorem gfin_6 {dC : Nat → ClassId} {dI : Nat → Nat → Nat} {cI cS : ClassId} {B : Nat} {tt a : Nat → Nat} {H : Heap} (hP : va_P (dC, dI) vwCl (WLf cI cS a) H) : va_at (dC, dI) vwCl (a 6, gE ((dC, dI), a, cI, cS, B, tt) μ0 6 (.inl (.inl 7))) H := hP 56 _ rfl
set_option maxRecDepth 100000 in
theorem gfin_7 {dC : Nat → ClassId} {dI : Nat → Nat → Nat} {cI cS : ClassId} {B : Nat} {tt a : Nat → Nat} {H : Heap} (hP : va_P (dC, dI) vwCl (WLf cI cS a) H) : va_at (dC, dI) vwCl (a 7, gE ((dC, dI), a, cI, cS, B, tt) μ0 7 (.inl (.inl 7))) H := hP 55 _ rfl
set_option maxRecDepth 100000 in
theorem gfin_8 {dC : Nat → ClassId} {dI : Nat → Nat → Nat} {cI cS : ClassId} {B : Nat} {tt a : Nat → Nat} {H : Heap} (hP : va_P (dC, dI) vwCl (WLf cI cS a) H) : va_at (dC, dI) vwCl (a 8, gE ((dC, dI), a, cI, cS, B, tt) μ0 8 (.inr (1, fO 1 8))) H := by
  rw [show gE ((dC, dI), a, cI, cS, B, tt) μ0 8 _ = _ from gE_obj _ _ _ _ _]
  exact hP 48 _ rfl
set_option maxRecDepth 100000 in
theorem gfin_9 {dC : Nat → ClassId} {dI : Nat → Nat → Nat} {cI cS : ClassId} {B : Nat} {tt a : Nat → Nat} {H : Heap} (hP : va_P (dC, dI) vwCl (WLf cI cS a) H) : va_at (dC, dI) vwCl (a 9, gE ((dC, dI), a, cI, cS, B, tt) μ0 9 (.inl (.inl 7))) H := hP 53 _ rfl
set_option maxRecDepth 100000 in
theorem gfin_10 {dC : Nat → ClassId} {dI : Nat → Nat → Nat} {cI cS : ClassId} {B : Nat} {tt a : Nat → Nat} {H : Heap} (hP : va_P (dC, dI) vwCl (WLf cI cS a) H) : va_at (dC, dI) vwCl (a 10, gE ((dC, dI), a, cI, cS, B, tt) μ0 10 (.inl (.inl 7))) H := hP 52 _ rfl
set_option maxRecDepth 100000 in
theorem gfin_11 {dC : Nat → ClassId} {dI : Nat → Nat → Nat} {cI cS : ClassId} {B : Nat} {tt a : Nat → Nat} {H : Heap} (hP : va_P (dC, dI) vwCl (WLf cI cS a) H) : va_at (dC, dI) vwCl (a 11, gE ((dC, dI), a, cI, cS, B, tt) μ0 11 (.inl (.inl 7))) H := hP 51 _ rfl
set_option maxRecDepth 100000 in
theorem gfin_12 {dC : Nat → ClassId} {dI : Nat → Nat → Nat} {cI cS : ClassId} {B : Nat} {tt a : Nat → Nat} {H : Heap} (hP : va_P (dC, dI) vwCl (WLf cI cS a) H) : va_at (dC, dI) vwCl (a 12, gE ((dC, dI), a, cI, cS, B, tt) μ0 12 (.inl (.inl 7))) H := hP 50 _ rfl
set_option maxRecDepth 100000 in
theorem gfin_13 {dC : Nat → ClassId} {dI : Nat → Nat → Nat} {cI cS : ClassId} {B : Nat} {tt a : Nat → Nat} {H : Heap} (hP : va_P (dC, dI) vwCl (WLf cI cS a) H) : va_at (dC, dI) vwCl (a 13, gE ((dC, dI), a, cI, cS, B, tt) μ0 13 (.inl (.inl 7))) H := hP 49 _ rfl
set_option maxRecDepth 100000 in
theorem gfin_14 {dC : Nat → ClassId} {dI : Nat → Nat → Nat} {cI cS : ClassId} {B : Nat} {tt a : Nat → Nat} {H : Heap} (hP : va_P (dC, dI) vwCl (WLf cI cS a) H) : va_at (dC, dI) vwCl (a 14, gE ((dC, dI), a, cI, cS, B, tt) μ0 14 (.inr (0, fO 0 14))) H := by
  rw [show gE ((dC, dI), a, cI, cS, B, tt) μ0 14 _ = _ from gE_obj _ _ _ _ _]
  exact hP 39 _ rfl
set_option maxRecDepth 100000 in
theorem gfin_15 {dC : Nat → ClassId} {dI : Nat → Nat → Nat} {cI cS : ClassId} {B : Nat} {tt a : Nat → Nat} {H : Heap} (hP : va_P (dC, dI) vwCl (WLf cI cS a) H) : va_at (dC, dI) vwCl (a 15, gE ((dC, dI), a, cI, cS, B, tt) μ0 15 (.inl (.inl 320))) H := hP 47 _ rfl
set_option maxRecDepth 100000 in
theorem gfin_16 {dC : Nat → ClassId} {dI : Nat → Nat → Nat} {cI cS : ClassId} {B : Nat} {tt a : Nat → Nat} {H : Heap} (hP : va_P (dC, dI) vwCl (WLf cI cS a) H) : va_at (dC, dI) vwCl (a 16, gE ((dC, dI), a, cI, cS, B, tt) μ0 16 (.inl (.inl 64))) H := hP 46 _ rfl
set_option maxRecDepth 100000 in
theorem gfin_17 {dC : Nat → ClassId} {dI : Nat → Nat → Nat} {cI cS : ClassId} {B : Nat} {tt a : Nat → Nat} {H : Heap} (hP : va_P (dC, dI) vwCl (WLf cI cS a) H) : va_at (dC, dI) vwCl (a 17, gE ((dC, dI), a, cI, cS, B, tt) μ0 17 (.inl (.inl 64))) H := hP 45 _ rfl
set_option maxRecDepth 100000 in
theorem gfin_18 {dC : Nat → ClassId} {dI : Nat → Nat → Nat} {cI cS : ClassId} {B : Nat} {tt a : Nat → Nat} {H : Heap} (hP : va_P (dC, dI) vwCl (WLf cI cS a) H) : va_at (dC, dI) vwCl (a 18, gE ((dC, dI), a, cI, cS, B, tt) μ0 18 (.inl (.inl 64))) H := hP 44 _ rfl
set_option maxRecDepth 100000 in
theorem gfin_19 {dC : Nat → ClassId} {dI : Nat → Nat → Nat} {cI cS : ClassId} {B : Nat} {tt a : Nat → Nat} {H : Heap} (hP : va_P (dC, dI) vwCl (WLf cI cS a) H) : va_at (dC, dI) vwCl (a 19, gE ((dC, dI), a, cI, cS, B, tt) μ0 19 (.inl (.inl 64))) H := hP 43 _ rfl
set_option maxRecDepth 100000 in
theorem gfin_20 {dC : Nat → ClassId} {dI : Nat → Nat → Nat} {cI cS : ClassId} {B : Nat} {tt a : Nat → Nat} {H : Heap} (hP : va_P (dC, dI) vwCl (WLf cI cS a) H) : va_at (dC, dI) vwCl (a 20, gE ((dC, dI), a, cI, cS, B, tt) μ0 20 (.inl (.inl 14))) H := hP 42 _ rfl
set_option maxRecDepth 100000 in
theorem gfin_21 {dC : Nat → ClassId} {dI : Nat → Nat → Nat} {cI cS : ClassId} {B : Nat} {tt a : Nat → Nat} {H : Heap} (hP : va_P (dC, dI) vwCl (WLf cI cS a) H) : va_at (dC, dI) vwCl (a 21, gE ((dC, dI), a, cI, cS, B, tt) μ0 21 (.inl (.inl 14))) H := hP 41 _ rfl
set_option maxRecDepth 100000 in
theorem gfin_22 {dC : Nat → ClassId} {dI : Nat → Nat → Nat} {cI cS : ClassId} {B : Nat} {tt a : Nat → Nat} {H : Heap} (hP : va_P (dC, dI) vwCl (WLf cI cS a) H) : va_at (dC, dI) vwCl (a 22, gE ((dC, dI), a, cI, cS, B, tt) μ0 22 (.inl (.inl 14))) H := hP 40 _ rfl
set_option maxRecDepth 100000 in
theorem gfin_23 {dC : Nat → ClassId} {dI : Nat → Nat → Nat} {cI cS : ClassId} {B : Nat} {tt a : Nat → Nat} {H : Heap} (hP : va_P (dC, dI) vwCl (WLf cI cS a) H) : va_at (dC, dI) vwCl (a 23, gE ((dC, dI), a, cI, cS, B, tt) μ0 23 (.inr (0, fO 0 23))) H := by
  rw [show gE ((dC, dI), a, cI, cS, B, tt) μ0 23 _ = _ from gE_obj _ _ _ _ _]
  exact hP 30 _ rfl
set_option maxRecDepth 100000 in
theorem gfin_24 {dC : Nat → ClassId} {dI : Nat → Nat → Nat} {cI cS : ClassId} {B : Nat} {tt a : Nat → Nat} {H : Heap} (hP : va_P (dC, dI) vwCl (WLf cI cS a) H) : va_at (dC, dI) vwCl (a 24, gE ((dC, dI), a, cI, cS, B, tt) μ0 24 (.inl (.inl 320))) H := hP 38 _ rfl
set_option maxRecDepth 100000 in
theorem gfin_25 {dC : Nat → ClassId} {dI : Nat → Nat → Nat} {cI cS : ClassId} {B : Nat} {tt a : Nat → Nat} {H : Heap} (hP : va_P (dC, dI) vwCl (WLf cI cS a) H) : va_at (dC, dI) vwCl (a 25, gE ((dC, dI), a, cI, cS, B, tt) μ0 25 (.inl (.inl 64))) H := hP 37 _ rfl
set_option maxRecDepth 100000 in
theorem gfin_26 {dC : Nat → ClassId} {dI : Nat → Nat → Nat} {cI cS : ClassId} {B : Nat} {tt a : Nat → Nat} {H : Heap} (hP : va_P (dC, dI) vwCl (WLf cI cS a) H) : va_at (dC, dI) vwCl (a 26, gE ((dC, dI), a, cI, cS, B, tt) μ0 26 (.inl (.inl 64))) H := hP 36 _ rfl
set_option maxRecDepth 100000 in
theorem gfin_27 {dC : Nat → ClassId} {dI : Nat → Nat → Nat} {cI cS : ClassId} {B : Nat} {tt a : Nat → Nat} {H : Heap} (hP : va_P (dC, dI) vwCl (WLf cI cS a) H) : va_at (dC, dI) vwCl (a 27, gE ((dC, dI), a, cI, cS, B, tt) μ0 27 (.inl (.inl 64))) H := hP 35 _ rfl
set_option maxRecDepth 100000 in
theorem gfin_28 {dC : Nat → ClassId} {dI : Nat → Nat → Nat} {cI cS : ClassId} {B : Nat} {tt a : Nat → Nat} {H : Heap} (hP : va_P (dC, dI) vwCl (WLf cI cS a) H) : va_at (dC, dI) vwCl (a 28, gE ((dC, dI), a, cI, cS, B, tt) μ0 28 (.inl (.inl 64))) H := hP 34 _ rfl
set_option maxRecDepth 100000 in
theorem gfin_29 {dC : Nat → ClassId} {dI : Nat → Nat → Nat} {cI cS : ClassId} {B : Nat} {tt a : Nat → Nat} {H : Heap} (hP : va_P (dC, dI) vwCl (WLf cI cS a) H) : va_at (dC, dI) vwCl (a 29, gE ((dC, dI), a, cI, cS, B, tt) μ0 29 (.inl (.inl 14))) H := hP 33 _ rfl
set_option maxRecDepth 100000 in
theorem gfin_30 {dC : Nat → ClassId} {dI : Nat → Nat → Nat} {cI cS : ClassId} {B : Nat} {tt a : Nat → Nat} {H : Heap} (hP : va_P (dC, dI) vwCl (WLf cI cS a) H) : va_at (dC, dI) vwCl (a 30, gE ((dC, dI), a, cI, cS, B, tt) μ0 30 (.inl (.inl 14))) H := hP 32 _ rfl
set_option maxRecDepth 100000 in
theorem gfin_31 {dC : Nat → ClassId} {dI : Nat → Nat → Nat} {cI cS : ClassId} {B : Nat} {tt a : Nat → Nat} {H : Heap} (hP : va_P (dC, dI) vwCl (WLf cI cS a) H) : va_at (dC, dI) vwCl (a 31, gE ((dC, dI), a, cI, cS, B, tt) μ0 31 (.inl (.inl 14))) H := hP 31 _ rfl
set_option maxRecDepth 100000 in
theorem gfin_32 {dC : Nat → ClassId} {dI : Nat → Nat → Nat} {cI cS : ClassId} {B : Nat} {tt a : Nat → Nat} {H : Heap} (hP : va_P (dC, dI) vwCl (WLf cI cS a) H) : va_at (dC, dI) vwCl (a 32, gE ((dC, dI), a, cI, cS, B, tt) μ0 32 (.inr (3, fO 3 32))) H := by
  rw [show gE ((dC, dI), a, cI, cS, B, tt) μ0 32 _ = _ from gE_obj _ _ _ _ _]
  exact hP 29 _ rfl
set_option maxRecDepth 100000 in
theorem gfin_33 {dC : Nat → ClassId} {dI : Nat → Nat → Nat} {cI cS : ClassId} {B : Nat} {tt a : Nat → Nat} {H : Heap} (hP : va_P (dC, dI) vwCl (WLf cI cS a) H) : va_at (dC, dI) vwCl (a 33, gE ((dC, dI), a, cI, cS, B, tt) μ0 33 (.inl (.inl 8))) H := hP 62 _ rfl
set_option maxRecDepth 100000 in
theorem gfin_34 {dC : Nat → ClassId} {dI : Nat → Nat → Nat} {cI cS : ClassId} {B : Nat} {tt a : Nat → Nat} {H : Heap} (hP : va_P (dC, dI) vwCl (WLf cI cS a) H) : va_at (dC, dI) vwCl (a 34, gE ((dC, dI), a, cI, cS, B, tt) μ0 34 (.inl (.inl 8))) H := hP 63 _ rfl
set_option maxRecDepth 100000 in
theorem gfin_35 {dC : Nat → ClassId} {dI : Nat → Nat → Nat} {cI cS : ClassId} {B : Nat} {tt a : Nat → Nat} {H : Heap} (hP : va_P (dC, dI) vwCl (WLf cI cS a) H) : va_at (dC, dI) vwCl (a 35, gE ((dC, dI), a, cI, cS, B, tt) μ0 35 (.inr (2, fO 2 35))) H := by
  rw [show gE ((dC, dI), a, cI, cS, B, tt) μ0 35 _ = _ from gE_obj _ _ _ _ _]
  exact hP 27 _ rfl
set_option maxRecDepth 100000 in
theorem gfin_36 {dC : Nat → ClassId} {dI : Nat → Nat → Nat} {cI cS : ClassId} {B : Nat} {tt a : Nat → Nat} {H : Heap} (hP : va_P (dC, dI) vwCl (WLf cI cS a) H) : va_at (dC, dI) vwCl (a 36, gE ((dC, dI), a, cI, cS, B, tt) μ0 36 (.inl (.inl 60))) H := hP 28 _ rfl
set_option maxRecDepth 100000 in
theorem gfin_37 {dC : Nat → ClassId} {dI : Nat → Nat → Nat} {cI cS : ClassId} {B : Nat} {tt a : Nat → Nat} {H : Heap} (hP : va_P (dC, dI) vwCl (WLf cI cS a) H) : va_at (dC, dI) vwCl (a 37, gE ((dC, dI), a, cI, cS, B, tt) μ0 37 (.inr (2, fO 2 37))) H := by
  rw [show gE ((dC, dI), a, cI, cS, B, tt) μ0 37 _ = _ from gE_obj _ _ _ _ _]
  exact hP 25 _ rfl
set_option maxRecDepth 100000 in
theorem gfin_38 {dC : Nat → ClassId} {dI : Nat → Nat → Nat} {cI cS : ClassId} {B : Nat} {tt a : Nat → Nat} {H : Heap} (hP : va_P (dC, dI) vwCl (WLf cI cS a) H) : va_at (dC, dI) vwCl (a 38, gE ((dC, dI), a, cI, cS, B, tt) μ0 38 (.inl (.inl 60))) H := hP 26 _ rfl
set_option maxRecDepth 100000 in
theorem gfin_39 {dC : Nat → ClassId} {dI : Nat → Nat → Nat} {cI cS : ClassId} {B : Nat} {tt a : Nat → Nat} {H : Heap} (hP : va_P (dC, dI) vwCl (WLf cI cS a) H) : va_at (dC, dI) vwCl (a 39, gE ((dC, dI), a, cI, cS, B, tt) μ0 39 (.inr (2, fO 2 39))) H := by
  rw [show gE ((dC, dI), a, cI, cS, B, tt) μ0 39 _ = _ from gE_obj _ _ _ _ _]
  exact hP 23 _ rfl
set_option maxRecDepth 100000 in
theorem gfin_40 {dC : Nat → ClassId} {dI : Nat → Nat → Nat} {cI cS : ClassId} {B : Nat} {tt a : Nat → Nat} {H : Heap} (hP : va_P (dC, dI) vwCl (WLf cI cS a) H) : va_at (dC, dI) vwCl (a 40, gE ((dC, dI), a, cI, cS, B, tt) μ0 40 (.inl (.inl 60))) H := hP 24 _ rfl
set_option maxRecDepth 100000 in
theorem gfin_41 {dC : Nat → ClassId} {dI : Nat → Nat → Nat} {cI cS : ClassId} {B : Nat} {tt a : Nat → Nat} {H : Heap} (hP : va_P (dC, dI) vwCl (WLf cI cS a) H) : va_at (dC, dI) vwCl (a 41, gE ((dC, dI), a, cI, cS, B, tt) μ0 41 (.inr (2, fO 2 41))) H := by
  rw [show gE ((dC, dI), a, cI, cS, B, tt) μ0 41 _ = _ from gE_obj _ _ _ _ _]
  exact hP 21 _ rfl
set_option maxRecDepth 100000 in
theorem gfin_42 {dC : Nat → ClassId} {dI : Nat → Nat → Nat} {cI cS : ClassId} {B : Nat} {tt a : Nat → Nat} {H : Heap} (hP : va_P (dC, dI) vwCl (WLf cI cS a) H) : va_at (dC, dI) vwCl (a 42, gE ((dC, dI), a, cI, cS, B, tt) μ0 42 (.inl (.inl 60))) H := hP 22 _ rfl
set_option maxRecDepth 100000 in
theorem gfin_43 {dC : Nat → ClassId} {dI : Nat → Nat → Nat} {cI cS : ClassId} {B : Nat} {tt a : Nat → Nat} {H : Heap} (hP : va_P (dC, dI) vwCl (WLf cI cS a) H) : va_at (dC, dI) vwCl (a 43, gE ((dC, dI), a, cI, cS, B, tt) μ0 43 (.inr (5, fO 5 43))) H := by
  rw [show gE ((dC, dI), a, cI, cS, B, tt) μ0 43 _ = _ from gE_obj _ _ _ _ _]
  exact hP 0 _ rfl
set_option maxRecDepth 100000 in
theorem gfin_44 {dC : Nat → ClassId} {dI : Nat → Nat → Nat} {cI cS : ClassId} {B : Nat} {tt a : Nat → Nat} {H : Heap} (hP : va_P (dC, dI) vwCl (WLf cI cS a) H) : va_at (dC, dI) vwCl (a 44, gE ((dC, dI), a, cI, cS, B, tt) μ0 44 (.inl (.inl 4))) H := hP 20 _ rfl
set_option maxRecDepth 100000 in
theorem gfin_45 {dC : Nat → ClassId} {dI : Nat → Nat → Nat} {cI cS : ClassId} {B : Nat} {tt a : Nat → Nat} {H : Heap} (hP : va_P (dC, dI) vwCl (WLf cI cS a) H) : va_at (dC, dI) vwCl (a 45, gE ((dC, dI), a, cI, cS, B, tt) μ0 45 (.inl (.inl 4))) H := hP 19 _ rfl
set_option maxRecDepth 100000 in
theorem gfin_46 {dC : Nat → ClassId} {dI : Nat → Nat → Nat} {cI cS : ClassId} {B : Nat} {tt a : Nat → Nat} {H : Heap} (hP : va_P (dC, dI) vwCl (WLf cI cS a) H) : va_at (dC, dI) vwCl (a 46, gE ((dC, dI), a, cI, cS, B, tt) μ0 46 (.inl (.inl 240))) H := hP 18 _ rfl
set_option maxRecDepth 100000 in
theorem gfin_47 {dC : Nat → ClassId} {dI : Nat → Nat → Nat} {cI cS : ClassId} {B : Nat} {tt a : Nat → Nat} {H : Heap} (hP : va_P (dC, dI) vwCl (WLf cI cS a) H) : va_at (dC, dI) vwCl (a 47, gE ((dC, dI), a, cI, cS, B, tt) μ0 47 (.inl (.inl 7))) H := hP 17 _ rfl
set_option maxRecDepth 100000 in
theorem gfin_48 {dC : Nat → ClassId} {dI : Nat → Nat → Nat} {cI cS : ClassId} {B : Nat} {tt a : Nat → Nat} {H : Heap} (hP : va_P (dC, dI) vwCl (WLf cI cS a) H) : va_at (dC, dI) vwCl (a 48, gE ((dC, dI), a, cI, cS, B, tt) μ0 48 (.inl (.inl 7))) H := hP 16 _ rfl
set_option maxRecDepth 100000 in
theorem gfin_49 {dC : Nat → ClassId} {dI : Nat → Nat → Nat} {cI cS : ClassId} {B : Nat} {tt a : Nat → Nat} {H : Heap} (hP : va_P (dC, dI) vwCl (WLf cI cS a) H) : va_at (dC, dI) vwCl (a 49, gE ((dC, dI), a, cI, cS, B, tt) μ0 49 (.inl (.inl 7))) H := hP 15 _ rfl
set_option maxRecDepth 100000 in
theorem gfin_50 {dC : Nat → ClassId} {dI : Nat → Nat → Nat} {cI cS : ClassId} {B : Nat} {tt a : Nat → Nat} {H : Heap} (hP : va_P (dC, dI) vwCl (WLf cI cS a) H) : va_at (dC, dI) vwCl (a 50, gE ((dC, dI), a, cI, cS, B, tt) μ0 50 (.inl (.inl 7))) H := hP 14 _ rfl
set_option maxRecDepth 100000 in
theorem gfin_51 {dC : Nat → ClassId} {dI : Nat → Nat → Nat} {cI cS : ClassId} {B : Nat} {tt a : Nat → Nat} {H : Heap} (hP : va_P (dC, dI) vwCl (WLf cI cS a) H) : va_at (dC, dI) vwCl (a 51, gE ((dC, dI), a, cI, cS, B, tt) μ0 51 (.inl (.inl 7))) H := hP 13 _ rfl
set_option maxRecDepth 100000 in
theorem gfin_52 {dC : Nat → ClassId} {dI : Nat → Nat → Nat} {cI cS : ClassId} {B : Nat} {tt a : Nat → Nat} {H : Heap} (hP : va_P (dC, dI) vwCl (WLf cI cS a) H) : va_at (dC, dI) vwCl (a 52, gE ((dC, dI), a, cI, cS, B, tt) μ0 52 (.inl (.inl 7))) H := hP 12 _ rfl
set_option maxRecDepth 100000 in
theorem gfin_53 {dC : Nat → ClassId} {dI : Nat → Nat → Nat} {cI cS : ClassId} {B : Nat} {tt a : Nat → Nat} {H : Heap} (hP : va_P (dC, dI) vwCl (WLf cI cS a) H) : va_at (dC, dI) vwCl (a 53, gE ((dC, dI), a, cI, cS, B, tt) μ0 53 (.inl (.inl 14))) H := hP 11 _ rfl
set_option maxRecDepth 100000 in
theorem gfin_54 {dC : Nat → ClassId} {dI : Nat → Nat → Nat} {cI cS : ClassId} {B : Nat} {tt a : Nat → Nat} {H : Heap} (hP : va_P (dC, dI) vwCl (WLf cI cS a) H) : va_at (dC, dI) vwCl (a 54, gE ((dC, dI), a, cI, cS, B, tt) μ0 54 (.inl (.inl 14))) H := hP 10 _ rfl
set_option maxRecDepth 100000 in
theorem gfin_55 {dC : Nat → ClassId} {dI : Nat → Nat → Nat} {cI cS : ClassId} {B : Nat} {tt a : Nat → Nat} {H : Heap} (hP : va_P (dC, dI) vwCl (WLf cI cS a) H) : va_at (dC, dI) vwCl (a 55, gE ((dC, dI), a, cI, cS, B, tt) μ0 55 (.inl (.inl 64))) H := hP 9 _ rfl
set_option maxRecDepth 100000 in
theorem gfin_56 {dC : Nat → ClassId} {dI : Nat → Nat → Nat} {cI cS : ClassId} {B : Nat} {tt a : Nat → Nat} {H : Heap} (hP : va_P (dC, dI) vwCl (WLf cI cS a) H) : va_at (dC, dI) vwCl (a 56, gE ((dC, dI), a, cI, cS, B, tt) μ0 56 (.inl (.inl 64))) H := hP 8 _ rfl
set_option maxRecDepth 100000 in
theorem gfin_57 {dC : Nat → ClassId} {dI : Nat → Nat → Nat} {cI cS : ClassId} {B : Nat} {tt a : Nat → Nat} {H : Heap} (hP : va_P (dC, dI) vwCl (WLf cI cS a) H) : va_at (dC, dI) vwCl (a 57, gE ((dC, dI), a, cI, cS, B, tt) μ0 57 (.inl (.inl 64))) H := hP 7 _ rfl
set_option maxRecDepth 100000 in
theorem gfin_58 {dC : Nat → ClassId} {dI : Nat → Nat → Nat} {cI cS : ClassId} {B : Nat} {tt a : Nat → Nat} {H : Heap} (hP : va_P (dC, dI) vwCl (WLf cI cS a) H) : va_at (dC, dI) vwCl (a 58, gE ((dC, dI), a, cI, cS, B, tt) μ0 58 (.inl (.inl 14))) H := hP 6 _ rfl
set_option maxRecDepth 100000 in
theorem gfin_59 {dC : Nat → ClassId} {dI : Nat → Nat → Nat} {cI cS : ClassId} {B : Nat} {tt a : Nat → Nat} {H : Heap} (hP : va_P (dC, dI) vwCl (WLf cI cS a) H) : va_at (dC, dI) vwCl (a 59, gE ((dC, dI), a, cI, cS, B, tt) μ0 59 (.inl (.inl 14))) H := hP 5 _ rfl
set_option maxRecDepth 100000 in
theorem gfin_60 {dC : Nat → ClassId} {dI : Nat → Nat → Nat} {cI cS : ClassId} {B : Nat} {tt a : Nat → Nat} {H : Heap} (hP : va_P (dC, dI) vwCl (WLf cI cS a) H) : va_at (dC, dI) vwCl (a 60, gE ((dC, dI), a, cI, cS, B, tt) μ0 60 (.inl (.inl 14))) H := hP 4 _ rfl
set_option maxRecDepth 100000 in
theorem gfin_61 {dC : Nat → ClassId} {dI : Nat → Nat → Nat} {cI cS : ClassId} {B : Nat} {tt a : Nat → Nat} {H : Heap} (hP : va_P (dC, dI) vwCl (WLf cI cS a) H) : va_at (dC, dI) vwCl (a 61, gE ((dC, dI), a, cI, cS, B, tt) μ0 61 (.inl (.inl 17))) H := hP 3 _ rfl
set_option maxRecDepth 100000 in
theorem gfin_62 {dC : Nat → ClassId} {dI : Nat → Nat → Nat} {cI cS : ClassId} {B : Nat} {tt a : Nat → Nat} {H : Heap} (hP : va_P (dC, dI) vwCl (WLf cI cS a) H) : va_at (dC, dI) vwCl (a 62, gE ((dC, dI), a, cI, cS, B, tt) μ0 62 (.inl (.inl 8))) H := hP 2 _ rfl
set_option maxRecDepth 100000 in
theorem gfin_63 {dC : Nat → ClassId} {dI : Nat → Nat → Nat} {cI cS : ClassId} {B : Nat} {tt a : Nat → Nat} {H : Heap} (hP : va_P (dC, dI) vwCl (WLf cI cS a) H) : va_at (dC, dI) vwCl (a 63, gE ((dC, dI), a, cI, cS, B, tt) μ0 63 (.inl (.inl 8))) H := hP 1 _ rfl
set_option maxRecDepth 100000 in
set_option maxHeartbeats 8000000 in
theorem gfin {dC : Nat → ClassId} {dI : Nat → Nat → Nat} {cI cS : ClassId} {B : Nat} {tt a : Nat → Nat} {H : Heap} (hP : va_P (dC, dI) vwCl (WLf cI cS a) H) (hD : va_D (gB B) (WLf cI cS a)) : va_P (dC, dI) vwCl (gW ((dC, dI), a, cI, cS, B, tt) μ0) H ∧ gDD ((dC, dI), a, cI, cS, B, tt) := by
  refine ⟨gP_of (fun k x hx => ?_), ?_⟩
  · match k, hx with
    | 0, hx => cases hx; exact gfin_0 hP
    | 1, hx => cases hx; exact gfin_1 hP
    | 2, hx => cases hx; exact gfin_2 hP
    | 3, hx => cases hx; exact gfin_3 hP
    | 4, hx => cases hx; exact gfin_4 hP
    | 5, hx => cases hx; exact gfin_5 hP
    | 6, hx => cases hx; exact gfin_6 hP
    | 7, hx => cases hx; exact gfin_7 hP
    | 8, hx => cases hx; exact gfin_8 hP
    | 9, hx => cases hx; exact gfin_9 hP
    | 10, hx => cases hx; exact gfin_10 hP
    | 11, hx => cases hx; exact gfin_11 hP
    | 12, hx => cases hx; exact gfin_12 hP
    | 13, hx => cases hx; exact gfin_13 hP
    | 14, hx => cases hx; exact gfin_14 hP
    | 15, hx => cases hx; exact gfin_15 hP
    | 16, hx => cases hx; exact gfin_16 hP
    | 17, hx => cases hx; exact gfin_17 hP
    | 18, hx => cases hx; exact gfin_18 hP
    | 19, hx => cases hx; exact gfin_19 hP
    | 20, hx => cases hx; exact gfin_20 hP
    | 21, hx => cases hx; exact gfin_21 hP
    | 22, hx => cases hx; exact gfin_22 hP
    | 23, hx => cases hx; exact gfin_23 hP
    | 24, hx => cases hx; exact gfin_24 hP
    | 25, hx => cases hx; exact gfin_25 hP
    | 26, hx => cases hx; exact gfin_26 hP
    | 27, hx => cases hx; exact gfin_27 hP
    | 28, hx => cases hx; exact gfin_28 hP
    | 29, hx => cases hx; exact gfin_29 hP
    | 30, hx => cases hx; exact gfin_30 hP
    | 31, hx => cases hx; exact gfin_31 hP
    | 32, hx => cases hx; exact gfin_32 hP
    | 33, hx => cases hx; exact gfin_33 hP
    | 34, hx => cases hx; exact gfin_34 hP
    | 35, hx => cases hx; exact gfin_35 hP
    | 36, hx => cases hx; exact gfin_36 hP
    | 37, hx => cases hx; exact gfin_37 hP
    | 38, hx => cases hx; exact gfin_38 hP
    | 39, hx => cases hx; exact gfin_39 hP
    | 40, hx => cases hx; exact gfin_40 hP
    | 41, hx => cases hx; exact gfin_41 hP
    | 42, hx => cases hx; exact gfin_42 hP
    | 43, hx => cases hx; exact gfin_43 hP
    | 44, hx => cases hx; exact gfin_44 hP
    | 45, hx => cases hx; exact gfin_45 hP
    | 46, hx => cases hx; exact gfin_46 hP
    | 47, hx => cases hx; exact gfin_47 hP
    | 48, hx => cases hx; exact gfin_48 hP
    | 49, hx => cases hx; exact gfin_49 hP
    | 50, hx => cases hx; exact gfin_50 hP
    | 51, hx => cases hx; exact gfin_51 hP
    | 52, hx => cases hx; exact gfin_52 hP
    | 53, hx => cases hx; exact gfin_53 hP
    | 54, hx => cases hx; exact gfin_54 hP
    | 55, hx => cases hx; exact gfin_55 hP
    | 56, hx => cases hx; exact gfin_56 hP
    | 57, hx => cases hx; exact gfin_57 hP
    | 58, hx => cases hx; exact gfin_58 hP
    | 59, hx => cases hx; exact gfin_59 hP
    | 60, hx => cases hx; exact gfin_60 hP
    | 61, hx => cases hx; exact gfin_61 hP
    | 62, hx => cases hx; exact gfin_62 hP
    | 63, hx => cases hx; exact gfin_63 hP
    | k + 64, hx => exact absurd (List.getElem?_eq_some_iff.mp hx).1 (by rw [sh_len]; omega)
  · have key : ∀ k : Nat, k < 64 → ∃ x : va_E, (WLf cI cS a)[pmx.getD k 0]? = some (a k, x) := by
      intro k hk
      match k, hk with
      | 0, _ => exact ⟨_, rfl⟩
      | 1, _ => exact ⟨_, rfl⟩
      | 2, _ => exact ⟨_, rfl⟩
      | 3, _ => exact ⟨_, rfl⟩
      | 4, _ => exact ⟨_, rfl⟩
      | 5, _ => exact ⟨_, rfl⟩
      | 6, _ => exact ⟨_, rfl⟩
      | 7, _ => exact ⟨_, rfl⟩
      | 8, _ => exact ⟨_, rfl⟩
      | 9, _ => exact ⟨_, rfl⟩
      | 10, _ => exact ⟨_, rfl⟩
      | 11, _ => exact ⟨_, rfl⟩
      | 12, _ => exact ⟨_, rfl⟩
      | 13, _ => exact ⟨_, rfl⟩
      | 14, _ => exact ⟨_, rfl⟩
      | 15, _ => exact ⟨_, rfl⟩
      | 16, _ => exact ⟨_, rfl⟩
      | 17, _ => exact ⟨_, rfl⟩
      | 18, _ => exact ⟨_, rfl⟩
      | 19, _ => exact ⟨_, rfl⟩
      | 20, _ => exact ⟨_, rfl⟩
      | 21, _ => exact ⟨_, rfl⟩
      | 22, _ => exact ⟨_, rfl⟩
      | 23, _ => exact ⟨_, rfl⟩
      | 24, _ => exact ⟨_, rfl⟩
      | 25, _ => exact ⟨_, rfl⟩
      | 26, _ => exact ⟨_, rfl⟩
      | 27, _ => exact ⟨_, rfl⟩
      | 28, _ => exact ⟨_, rfl⟩
      | 29, _ => exact ⟨_, rfl⟩
      | 30, _ => exact ⟨_, rfl⟩
      | 31, _ => exact ⟨_, rfl⟩
      | 32, _ => exact ⟨_, rfl⟩
      | 33, _ => exact ⟨_, rfl⟩
      | 34, _ => exact ⟨_, rfl⟩
      | 35, _ => exact ⟨_, rfl⟩
      | 36, _ => exact ⟨_, rfl⟩
      | 37, _ => exact ⟨_, rfl⟩
      | 38, _ => exact ⟨_, rfl⟩
      | 39, _ => exact ⟨_, rfl⟩
      | 40, _ => exact ⟨_, rfl⟩
      | 41, _ => exact ⟨_, rfl⟩
      | 42, _ => exact ⟨_, rfl⟩
      | 43, _ => exact ⟨_, rfl⟩
      | 44, _ => exact ⟨_, rfl⟩
      | 45, _ => exact ⟨_, rfl⟩
      | 46, _ => exact ⟨_, rfl⟩
      | 47, _ => exact ⟨_, rfl⟩
      | 48, _ => exact ⟨_, rfl⟩
      | 49, _ => exact ⟨_, rfl⟩
      | 50, _ => exact ⟨_, rfl⟩
      | 51, _ => exact ⟨_, rfl⟩
      | 52, _ => exact ⟨_, rfl⟩
      | 53, _ => exact ⟨_, rfl⟩
      | 54, _ => exact ⟨_, rfl⟩
      | 55, _ => exact ⟨_, rfl⟩
      | 56, _ => exact ⟨_, rfl⟩
      | 57, _ => exact ⟨_, rfl⟩
      | 58, _ => exact ⟨_, rfl⟩
      | 59, _ => exact ⟨_, rfl⟩
      | 60, _ => exact ⟨_, rfl⟩
      | 61, _ => exact ⟨_, rfl⟩
      | 62, _ => exact ⟨_, rfl⟩
      | 63, _ => exact ⟨_, rfl⟩
      | k + 64, h => exact absurd h (by omega)
    refine ⟨fun i j hi hj hij => ?_, fun i hi => ?_⟩
    · obtain ⟨x, hx⟩ := key i hi
      obtain ⟨y, hy⟩ := key j hj
      exact pmx_inj i hi j hj (hD.1 _ _ _ _ hx hy hij)
    · obtain ⟨x, hx⟩ := key i hi
      exact hD.2 _ _ hx
set_option maxRecDepth 100000 in
set_option maxHeartbeats 8000000 in
theorem whole_open {I : Mem → Prop} (hI0 : I μ0) (hst : Steps I) {p : Program} {e : Env} {s : State} {m : MethodId} {below : List Frame} {meth : Method} {c : Code} (l : Launch) {b L : Nat} {xs : Nat → Int32} (hL : L ≤ 3072) (C0 : lw_At p s m meth c b L xs) : W p l e room_1 s m #[Value.ref b] below meth c s.heap [] 0 0 (lw_Z below #[Value.ref b] s) (entryFrame m ([Value.ref b] : List Value).toArray 4) := by
  obtain ⟨hx, hb, hr, hml, hown, hts, hX, hbl, hlocks, hgv⟩ := id C0
  have htb : ∀ w ∈ TB, w.before #[Value.ref b] s = true := fun w hw => hts w (List.mem_filter.mp hw).1
  obtain ⟨kc0, ks0, hKn0⟩ := u_known (C := RX0) (T := TX0) (N := 11) (n := 11) htb inX0 (htb _ nw52)
  obtain ⟨kc1, ks1, hKn1⟩ := u_known (C := RX1) (T := TX1) (N := 10) (n := 10) htb inX1 (htb _ nw46)
  obtain ⟨kc2, ks2, hKn2⟩ := u_known (C := RX2) (T := TX2) (N := 4) (n := 4) htb inX2 (htb _ nw64)
  obtain ⟨kc3, ks3, hKn3⟩ := u_known (C := RX3) (T := TX3) (N := 1) (n := 1) htb inX3 (htb _ nw58)
  obtain ⟨kc4, ks4, hKn4⟩ := u_known (C := RX4) (T := TX4) (N := 12) (n := 12) htb inX4 (htb _ nw67)
  obtain ⟨kc5, ks5, hKn5⟩ := u_known (C := RX5) (T := TX5) (N := 32) (n := 32) htb inX5 (htb _ nw68)
  obtain ⟨dC, dI, hKc⟩ : ∃ (dC : Nat → ClassId) (dI : Nat → Nat → Nat), ∀ (k : Nat) (q : vw_C), vwCl[k]? = some q → u_Kn s q.1 q.2.1 q.2.2 (dC k) (dI k) := by
    refine ⟨fun k => match k with | 0 => kc0 | 1 => kc1 | 2 => kc2 | 3 => kc3 | 4 => kc4 | _ => kc5, fun k => match k with | 0 => ks0 | 1 => ks1 | 2 => ks2 | 3 => ks3 | 4 => ks4 | _ => ks5, ?_⟩
    intro k q hq
    match k, hq with
    | 0, hq => cases hq; exact hKn0
    | 1, hq => cases hq; exact hKn1
    | 2, hq => cases hq; exact hKn2
    | 3, hq => cases hq; exact hKn3
    | 4, hq => cases hq; exact hKn4
    | 5, hq => cases hq; exact hKn5
    | k + 6, hq => exact absurd (List.getElem?_eq_some_iff.mp hq).1 (by simp [vwCl])
  obtain ⟨cI, kI0, cpI, i1, i2, i3⟩ := Cond.arrayClass_spec (htb _ nw3)
  have hao := hts (Cond.arrayOver (.object "BookPairs$Sheet")) (tbi1 (List.mem_of_getElem? (i := 19) (by decide +kernel)))
  obtain ⟨cpS, cS, kS0, s1, s2, s3, s4, s5⟩ := Cond.arrayOver_spec hao
  have hK : va_K (dC, dI) vwCl (nT cI cS) s := by
    refine ⟨hKc, fun k q hq => ?_⟩
    match k, hq with
    | 0, hq =>
      cases hq
      exact ⟨fun n z => ⟨fun k h => (by cases h), kI0, i2, cpI, i3⟩, i1⟩
    | 1, hq =>
      cases hq
      exact ⟨fun n z => ⟨fun k h => (by cases h), kS0, s3, cpS, s4⟩, kS0, cpS, s3, s4, s1, s5⟩
    | k + 2, hq => exact absurd (List.getElem?_eq_some_iff.mp hq).1 (by simp [nT])
  have hnm : ∀ q ∈ mns, va_Nw (.methodLinkNest "BookPairs" q.1 q.2 "BookPairs") s := by
    intro q hq
    simp only [mns, List.mem_cons, List.not_mem_nil, or_false] at hq
    rcases hq with rfl | rfl | rfl | rfl
    · exact va_Nw.of rfl (hts (Cond.methodLinkNest "BookPairs" 19 yX1_init "BookPairs") (tbi1 (List.mem_of_getElem? (i := 22) (by decide +kernel))))
    · exact va_Nw.of rfl (hts (Cond.methodLinkNest "BookPairs" 29 yX0_init "BookPairs") (tbi1 (List.mem_of_getElem? (i := 80) (by decide +kernel))))
    · exact va_Nw.of rfl (hts (Cond.methodLinkNest "BookPairs" 39 yX3_init "BookPairs") (tbi1 (List.mem_of_getElem? (i := 124) (by decide +kernel))))
    · exact va_Nw.of rfl (hts (Cond.methodLinkNest "BookPairs" 51 yX2_init "BookPairs") (tbi1 (List.mem_of_getElem? (i := 133) (by decide +kernel))))
  have hnw : gNW s := by
    intro q hq
    simp only [nsts, List.mem_cons, List.not_mem_nil, or_false] at hq
    rcases hq with rfl | rfl | rfl | rfl | rfl
    · exact va_Nw.of rfl (hts (Cond.fieldLinkNest "BookPairs$Books" 60 "BookPairs" "LEFTS_OF_SORT" "[I" "BookPairs") (tbi2 (List.mem_of_getElem? (i := 37) (by decide +kernel))))
    · exact va_Nw.of rfl (hts (Cond.fieldLinkNest "BookPairs$Books" 63 "BookPairs" "RIGHTS_OF_SORT" "[I" "BookPairs") (tbi2 (List.mem_of_getElem? (i := 39) (by decide +kernel))))
    · exact va_Nw.of rfl (hts (Cond.fieldLinkNest "BookPairs$Aligner" 89 "BookPairs" "STEP_OF_SORT" "[I" "BookPairs") (tbi2 (List.mem_of_getElem? (i := 71) (by decide +kernel))))
    · exact va_Nw.of rfl (hts (Cond.fieldLinkNest "BookPairs$Aligner" 106 "BookPairs" "LEFTS_OF_SORT" "[I" "BookPairs") (tbi2 (List.mem_of_getElem? (i := 99) (by decide +kernel))))
    · exact va_Nw.of rfl (hts (Cond.fieldLinkNest "BookPairs$Aligner" 112 "BookPairs" "RIGHTS_OF_SORT" "[I" "BookPairs") (tbi2 (List.mem_of_getElem? (i := 103) (by decide +kernel))))
  have hA0 : ∀ a : Nat, a < s.heap.size → ¬ gB s.heap.size a := fun a h => Nat.not_le.mpr h
  obtain ⟨t0, z0, y0⟩ := st_of 0 hgv (hts (Cond.laysStatic "BookPairs" "LEFTS_OF_SORT" "[I") (tbi2 (List.mem_of_getElem? (i := 38) (by decide +kernel)))) (htb _ nw69) (by decide) hA0
  obtain ⟨t1, z1, y1⟩ := st_of 1 hgv (hts (Cond.laysStatic "BookPairs" "RIGHTS_OF_SORT" "[I") (tbi2 (List.mem_of_getElem? (i := 40) (by decide +kernel)))) (htb _ nw69) (by decide) hA0
  obtain ⟨t2, z2, y2⟩ := st_of 2 hgv (hts (Cond.laysStatic "BookPairs" "STEP_OF_SORT" "[I") (tbi2 (List.mem_of_getElem? (i := 72) (by decide +kernel)))) (htb _ nw69) (by decide) hA0
  have hO : nOK (dC, dI) s.heap.size cI cS s := ⟨hK, va_AO.of hao, hnm, Nat.le_refl _⟩
  have hS : va_S (gB s.heap.size) s.heap s.heap [] := va_S.rf
  have hP : va_P (dC, dI) vwCl [] s.heap := fun k q h => by simp at h
  have hD : va_D (gB s.heap.size) [] := ⟨fun i j p q h => by simp at h, fun k q h => by simp at h⟩
  have hl := lv_entry ([.ref b]) (n := 4) (Nat.le_of_ble_eq_true rfl)
  rw [lg_entry_eq]
  generalize (lg_sl ([.ref b]) ++ List.replicate (4 - (lg_sl ([.ref b])).length) Slot.unset).toArray = ls at hl ⊢
  have hl : lv_has ls 4 [(0, .ref b)] := hl
  refine va_new (ci := 4) (fs := [.null, .null, .null, .null, .null, .null, .null, .null, .int 0, .int 0, .int 0, .int 0]) (C := RX4) (T := TX4) (N := 12) hx hb htb inX4 tyX4 tyX4_ok hown (htb _ nw70) (htb _ nw67) (htb _ nw69) hK hP hD hS (fun q hq => hq) rfl (fun j hj => bl_4 j hj) (Nat.le_of_ble_eq_true rfl) (Nat.le_of_ble_eq_true rfl) dL_law_0 (fun q H hP hD hS => ?_)
  have hP : va_P (dC, dI) vwCl [(q, .inr (4, [.null, .null, .null, .null, .null, .null, .null, .null, .int 0, .int 0, .int 0, .int 0]))] H := hP
  have hD : va_D (gB s.heap.size) [(q, .inr (4, [.null, .null, .null, .null, .null, .null, .null, .null, .int 0, .int 0, .int 0, .int 0]))] := hD
  refine lv_dup hx hb dL_law_3 rfl ?_
  refine n_callW (D := (dC, dI)) (B := s.heap.size) (va_runI (As := []) (rest := [.ref q]) (b := q) (g := F0 m 4 ls [.ref q, .ref q]) ⟨hx, hb, hml, hown, htb⟩ (N_X4_init (dC, dI) s.heap.size cI cS q l) (cwI (R := room_1) 0 htb (gWs_good (J := J_X4_init) cwn_X4_init) rfl rfl rfl (htb _ nw69) (htb _ nw71) (htb _ nw72) rfl ⟨by decide +kernel, by decide +kernel, by decide +kernel⟩ ⟨(Nat.le_of_ble_eq_true rfl), (Nat.le_of_ble_eq_true rfl)⟩) ⟨nBlind, fun U hU hWm => ⟨rfl, by rw [hU]; exact hP, hD, nOK_to hO hWm hS hU⟩⟩ rfl rfl hl.1 rfl (lv_room (Nat.le_of_ble_eq_true rfl)) dL_law_4 ⟨(Nat.le_of_ble_eq_true rfl), (Nat.le_of_ble_eq_true rfl)⟩) hS (fun H locs w1 hw hP hD hS => ?_)
  obtain ⟨c0, c1, c2, c3, c4, c5, c6, c7, c8, c9, c10, c11, c12, c13, c14, c15, c16, c17, c18, c19, c20, c21, c22, c23, c24, c25, c26, c27, c28, c29, c30, c31, c32, c33, c34, c35, c36, c37, c38, c39, c40, c41, rfl⟩ := hw
  refine lv_astore_n (lv' := [(1, .ref q), (0, .ref b)]) hx hb dL_law_7 rfl hl (by decide) rfl (fun ls hl => ?_)
  refine va_new (ci := 5) (fs := [.int 0, .int 0, .null, .null, .null, .int 0, .int 0, .int 0, .int 0, .int 0, .null, .null, .null, .null, .null, .int 0, .int 0, .int 0, .null, .null, .null, .null, .null, .null, .int 0, .null, .null, .null, .null, .int 0, .null, .null]) (C := RX5) (T := TX5) (N := 32) hx hb htb inX5 tyX5 tyX5_ok hown (htb _ nw73) (htb _ nw68) (htb _ nw74) hK hP hD hS (fun q hq => hq) rfl (fun j hj => bl_5 j hj) (Nat.le_of_ble_eq_true rfl) (Nat.le_of_ble_eq_true rfl) dL_law_8 (fun qm H hP hD hS => ?_)
  have hP := va_P_rot hP
  have hD := va_D_rot hD
  refine lv_dup hx hb dL_law_11 rfl ?_
  refine n_callW (D := (dC, dI)) (B := s.heap.size) (va_runI (As := []) (rest := [.ref qm]) (b := qm) (g := F0 m 12 ls [.ref qm, .ref qm]) ⟨hx, hb, hml, hown, htb⟩ (N_X5_init (dC, dI) s.heap.size cI cS qm [(c40, .inr (2, [.ref c41, .int 0, .int 0, .int 0])), (c41, .inl (cI, 60, .inl (fun _ => 0))), (c38, .inr (2, [.ref c39, .int 0, .int 0, .int 0])), (c39, .inl (cI, 60, .inl (fun _ => 0))), (c36, .inr (2, [.ref c37, .int 0, .int 0, .int 0])), (c37, .inl (cI, 60, .inl (fun _ => 0))), (c34, .inr (2, [.ref c35, .int 0, .int 0, .int 0])), (c35, .inl (cI, 60, .inl (fun _ => 0))), (c31, .inr (3, [.int 0])), (c22, .inr (0, [.ref c23, .ref c24, .ref c25, .ref c26, .ref c27, .ref c28, .ref c29, .ref c30, .int 0, .int 0, .int 0])), (c30, .inl (cI, 14, .inl (fun _ => 0))), (c29, .inl (cI, 14, .inl (fun _ => 0))), (c28, .inl (cI, 14, .inl (fun _ => 0))), (c27, .inl (cI, 64, .inl (fun _ => 0))), (c26, .inl (cI, 64, .inl (fun _ => 0))), (c25, .inl (cI, 64, .inl (fun _ => 0))), (c24, .inl (cI, 64, .inl (fun _ => 0))), (c23, .inl (cI, 320, .inl (fun _ => 0))), (c13, .inr (0, [.ref c14, .ref c15, .ref c16, .ref c17, .ref c18, .ref c19, .ref c20, .ref c21, .int 0, .int 0, .int 0])), (c21, .inl (cI, 14, .inl (fun _ => 0))), (c20, .inl (cI, 14, .inl (fun _ => 0))), (c19, .inl (cI, 14, .inl (fun _ => 0))), (c18, .inl (cI, 64, .inl (fun _ => 0))), (c17, .inl (cI, 64, .inl (fun _ => 0))), (c16, .inl (cI, 64, .inl (fun _ => 0))), (c15, .inl (cI, 64, .inl (fun _ => 0))), (c14, .inl (cI, 320, .inl (fun _ => 0))), (c7, .inr (1, [.ref c8, .ref c9, .ref c10, .ref c11, .ref c12, .int 0, .int 0, .int 0, .int 0, .int 0])), (c12, .inl (cI, 7, .inl (fun _ => 0))), (c11, .inl (cI, 7, .inl (fun _ => 0))), (c10, .inl (cI, 7, .inl (fun _ => 0))), (c9, .inl (cI, 7, .inl (fun _ => 0))), (c8, .inl (cI, 7, .inl (fun _ => 0))), (c1, .inr (1, [.ref c2, .ref c3, .ref c4, .ref c5, .ref c6, .int 0, .int 0, .int 0, .int 0, .int 0])), (c6, .inl (cI, 7, .inl (fun _ => 0))), (c5, .inl (cI, 7, .inl (fun _ => 0))), (c4, .inl (cI, 7, .inl (fun _ => 0))), (c3, .inl (cI, 7, .inl (fun _ => 0))), (c2, .inl (cI, 7, .inl (fun _ => 0))), (q, .inr (4, [.ref c0, .ref c1, .ref c7, .ref c13, .ref c22, .ref c31, .ref c32, .ref c33, .int 0, .int 0, .int 0, .int 0])), (c0, .inl (cS, 4, .inr (.inr (.inr (.inr (va_up (va_up (va_up (va_up (fun _ => none) (0 : Int32).toNatClampNeg (some c34)) (1 : Int32).toNatClampNeg (some c36)) (2 : Int32).toNatClampNeg (some c38)) (3 : Int32).toNatClampNeg (some c40))))))), (c32, .inl (cI, 8, .inl (fun _ => 0))), (c33, .inl (cI, 8, .inl (fun _ => 0)))] l) (cwI (R := room_1) 0 htb (gWs_good (J := J_X5_init) cwn_X5_init) rfl rfl rfl (htb _ nw74) (htb _ nw75) (htb _ nw76) rfl ⟨by decide +kernel, by decide +kernel, by decide +kernel⟩ ⟨(Nat.le_of_ble_eq_true rfl), (Nat.le_of_ble_eq_true rfl)⟩) ⟨nBlind, fun U hU hWm => ⟨rfl, by rw [hU]; exact hP, hD, nOK_to hO hWm hS hU⟩⟩ rfl rfl hl.1 rfl (lv_room (Nat.le_of_ble_eq_true rfl)) dL_law_12 ⟨(Nat.le_of_ble_eq_true rfl), (Nat.le_of_ble_eq_true rfl)⟩) hS (fun H locs w1 hw hP hD hS => ?_)
  obtain ⟨e0, e1, e2, e3, e4, e5, e6, e7, e8, e9, e10, e11, e12, e13, e14, e15, e16, e17, e18, e19, rfl⟩ := hw
  refine lv_astore_n (lv' := [(2, .ref qm), (1, .ref q), (0, .ref b)]) hx hb dL_law_15 rfl hl (by decide) rfl (fun ls hl => ?_)
  refine lv_iconst (v := nI 0) hx hb dL_law_16 (by decide) ?_
  refine lv_istore_n (lv' := [(3, .int (nI 0)), (2, .ref qm), (1, .ref q), (0, .ref b)]) hx hb dL_law_17 rfl hl (by decide) rfl (fun ls hl => ?_)
  have hP : va_P (dC, dI) vwCl (WLf cI cS (fun k => ([q, c0, c1, c2, c3, c4, c5, c6, c7, c8, c9, c10, c11, c12, c13, c14, c15, c16, c17, c18, c19, c20, c21, c22, c23, c24, c25, c26, c27, c28, c29, c30, c31, c32, c33, c34, c35, c36, c37, c38, c39, c40, c41, qm, e0, e1, e2, e3, e4, e5, e6, e7, e8, e9, e10, e11, e12, e13, e14, e15, e16, e17, e18, e19] : List Nat).getD k 0)) H := hP
  have hD : va_D (gB s.heap.size) (WLf cI cS (fun k => ([q, c0, c1, c2, c3, c4, c5, c6, c7, c8, c9, c10, c11, c12, c13, c14, c15, c16, c17, c18, c19, c20, c21, c22, c23, c24, c25, c26, c27, c28, c29, c30, c31, c32, c33, c34, c35, c36, c37, c38, c39, c40, c41, qm, e0, e1, e2, e3, e4, e5, e6, e7, e8, e9, e10, e11, e12, e13, e14, e15, e16, e17, e18, e19] : List Nat).getD k 0)) := hD
  obtain ⟨hP, hDD⟩ := gfin (tt := fun j => ([t0, t1, t2] : List Nat).getD j 0) hP hD
  have hST : ∀ j : Nat, j < 3 → va_Z "BookPairs" (snm j) "[I" (.ref (([t0, t1, t2] : List Nat).getD j 0)) (gB s.heap.size) s s.heap ∧ va_T .int (([t0, t1, t2] : List Nat).getD j 0) 5 (fun i => .int (stv j i)) (gB s.heap.size) s s.heap := by
    intro j hj
    match j, hj with
    | 0, _ => exact ⟨z0, y0⟩
    | 1, _ => exact ⟨z1, y1⟩
    | 2, _ => exact ⟨z2, y2⟩
    | j + 3, h => exact absurd h (by omega)
  exact law_loop hst (G := ((dC, dI), (fun k => ([q, c0, c1, c2, c3, c4, c5, c6, c7, c8, c9, c10, c11, c12, c13, c14, c15, c16, c17, c18, c19, c20, c21, c22, c23, c24, c25, c26, c27, c28, c29, c30, c31, c32, c33, c34, c35, c36, c37, c38, c39, c40, c41, qm, e0, e1, e2, e3, e4, e5, e6, e7, e8, e9, e10, e11, e12, e13, e14, e15, e16, e17, e18, e19] : List Nat).getD k 0), cI, cS, s.heap.size, (fun j => ([t0, t1, t2] : List Nat).getD j 0))) (xs := xs) hL (L + 7) 0 μ0 (by omega) (by omega) hI0 p l e s m below meth c ⟨hx, hb, hml, hown, htb, hlocks, hr, ⟨hK, hDD, hST, hnw⟩, rfl, hX, hbl, (Nat.le_of_ble_eq_true rfl), (Nat.le_of_ble_eq_true rfl)⟩ H _ ls hP hS (lv_sub hl [0, 3, 2, 1] rfl)
