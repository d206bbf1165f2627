/-! THE TYPED MEMORY: what the cells hold, by kind; typed values of stack and locals; the judgement Gd over them -/
abbrev TV : Type := Int32 ⊕ (Int64 ⊕ Option Nat)
abbrev vI (x : Int32) : TV := .inl x
abbrev vJ (x : Int64) : TV := .inr (.inl x)
abbrev vA (r : Option Nat) : TV := .inr (.inr r)
def tv : TV → Value
  | .inl x => .int x
  | .inr (.inl x) => .long x
  | .inr (.inr r) => va_rf r
def tJ : TV → Bool
  | .inr (.inl _) => true
  | _ => false
def tL (L : List (Nat × TV)) : List (Nat × Value) := L.map (fun q => (q.1, tv q.2))
def tS (st : List TV) : List Value := st.map tv
def tW : List TV → Nat
  | [] => 0
  | v :: st => (if tJ v then 2 else 1) + tW st
theorem tv_cat (v : TV) : (tv v).category = if tJ v then 2 else 1 := by
  rcases v with x | x | r
  · rfl
  · rfl
  · cases r <;> rfl
theorem tW_sum (st : List TV) : ((tS st).map fun v => v.category).sum = tW st := by
  induction st with
  | nil => rfl
  | cons v st ih =>
    have h1 : ((tS (v :: st)).map fun v => v.category).sum = (tv v).category + ((tS st).map fun v => v.category).sum := by simp [tS]
    rw [h1, ih, tv_cat]
    rfl
theorem tL_at {L : List (Nat × TV)} {j i : Nat} {v : TV} (h : L[j]? = some (i, v)) : (tL L)[j]? = some (i, tv v) := by
  simp [tL, h]
def tk1 (i : Nat) (q : Nat × TV) : Bool := !(q.1 == i) && !(q.1 + 1 == i && tJ q.2)
def tk2 (i : Nat) (q : Nat × TV) : Bool := !(q.1 == i) && (!(q.1 == i + 1) && !(q.1 + 1 == i && tJ q.2))
theorem tv_j (v : TV) : ((tv v).category == 2) = tJ v := by
  rw [tv_cat]
  cases tJ v <;> rfl
theorem tL_k1 {L L' : List (Nat × TV)} {i : Nat} {v : TV} (h : (i, v) :: L.filter (tk1 i) = L') : (i, tv v) :: (tL L).filter (fun q => !(q.1 == i) && !(q.1 + 1 == i && q.2.category == 2)) = tL L' := by
  subst h
  have e : (tL L).filter (fun q => !(q.1 == i) && !(q.1 + 1 == i && q.2.category == 2)) = tL (L.filter (tk1 i)) := by
    unfold tL
    rw [List.filter_map]
    congr 1
    refine congrArg (fun f => List.filter f L) (funext fun q => ?_)
    simp only [Function.comp, tk1, tv_j]
  rw [e]
  rfl
theorem tL_k2 {L L' : List (Nat × TV)} {i : Nat} {v : TV} (h : (i, v) :: L.filter (tk2 i) = L') : (i, tv v) :: (tL L).filter (fun q => !(q.1 == i) && (!(q.1 == i + 1) && !(q.1 + 1 == i && q.2.category == 2))) = tL L' := by
  subst h
  have e : (tL L).filter (fun q => !(q.1 == i) && (!(q.1 == i + 1) && !(q.1 + 1 == i && q.2.category == 2))) = tL (L.filter (tk2 i)) := by
    unfold tL
    rw [List.filter_map]
    congr 1
    refine congrArg (fun f => List.filter f L) (funext fun q => ?_)
    simp only [Function.comp, tk2, tv_j]
  rw [e]
  rfl
theorem tL_sub {ls : Array Slot} {nL : Nat} {L L' : List (Nat × TV)} (h : lv_has ls nL (tL L)) (ks : List Nat) (e : ks.filterMap (fun k => L[k]?) = L') : lv_has ls nL (tL L') := by
  refine ⟨h.1, h.2.1, fun q hq => ?_⟩
  obtain ⟨q0, h1, rfl⟩ := List.mem_map.mp hq
  rw [← e] at h1
  obtain ⟨k, -, hk⟩ := List.mem_filterMap.mp h1
  exact h.2.2 _ (List.mem_map.mpr ⟨q0, List.mem_of_getElem? hk, rfl⟩)
/-! memory: kinds (an object of number c: (c, 0); an array: (20 + t, its length)), int and boolean fields, reference fields, arrays, the next address -/
abbrev Mem : Type := (Nat → Option (Nat × Nat)) × (Nat → Nat → Int32) × (Nat → Nat → Option Nat) × (Nat → Nat → Int32) × (Nat → Nat → Int64) × (Nat → Nat → Option Nat) × Nat
def mK (X : Mem) : Nat → Option (Nat × Nat) := X.1
def mI (X : Mem) : Nat → Nat → Int32 := X.2.1
def mR (X : Mem) : Nat → Nat → Option Nat := X.2.2.1
def aI (X : Mem) : Nat → Nat → Int32 := X.2.2.2.1
def aJ (X : Mem) : Nat → Nat → Int64 := X.2.2.2.2.1
def aR (X : Mem) : Nat → Nat → Option Nat := X.2.2.2.2.2.1
def mZ (X : Mem) : Nat := X.2.2.2.2.2.2
def up2 {α : Type} (f : Nat → Nat → α) (k a : Nat) (v : α) : Nat → Nat → α := fun j b => if j = k ∧ b = a then v else f j b
def wI (X : Mem) (k a : Nat) (v : Int32) : Mem := (mK X, up2 (mI X) k a v, mR X, aI X, aJ X, aR X, mZ X)
def wR (X : Mem) (k a : Nat) (v : Option Nat) : Mem := (mK X, mI X, up2 (mR X) k a v, aI X, aJ X, aR X, mZ X)
def sI (X : Mem) (a i : Nat) (v : Int32) : Mem := (mK X, mI X, mR X, up2 (aI X) a i v, aJ X, aR X, mZ X)
def sJ (X : Mem) (a i : Nat) (v : Int64) : Mem := (mK X, mI X, mR X, aI X, up2 (aJ X) a i v, aR X, mZ X)
def sR (X : Mem) (a i : Nat) (v : Option Nat) : Mem := (mK X, mI X, mR X, aI X, aJ X, up2 (aR X) a i v, mZ X)
def zM (X : Mem) (z : Nat) : Mem := (mK X, mI X, mR X, aI X, aJ X, aR X, z)
/-- a new object of number c at the next address: all fields 0 or null -/
def nO (X : Mem) (c : Nat) : Mem := (fun b => if b = mZ X then some (c, 0) else mK X b, fun k b => if b = mZ X then 0 else mI X k b, fun k b => if b = mZ X then none else mR X k b, aI X, aJ X, aR X, mZ X + 1)
/-- a new array of kind 20 + t and length n there -/
def nA (X : Mem) (t n : Nat) : Mem := (fun b => if b = mZ X then some (20 + t, n) else mK X b, mI X, mR X, fun b i => if b = mZ X then 0 else aI X b i, fun b i => if b = mZ X then 0 else aJ X b i, fun b i => if b = mZ X then none else aR X b i, mZ X + 1)
def fR : Nat → Nat → Bool := fun c k => match (tyOf c k) with
  | .array _ => true
  | .object _ => true
  | _ => false
def fsOf (X : Mem) (c a : Nat) : List Value := (List.range (fN c)).map (fun k => if fR c k then va_rf (mR X (100 * c + k) a) else .int (mI X (100 * c + k) a))
abbrev DD : Type := (Nat → ClassId) × (Nat → Nat → Nat) × (Nat → ClassId)
def cellOf (D : DD) (X : Mem) (a c n : Nat) : va_E :=
  if c < 12 then .inr (c, fsOf X c a) else if c < 22 then .inl (D.2.2 (c - 20), n, .inl (aI X a)) else if c = 22 then .inl (D.2.2 2, n, .inr (.inl (aJ X a))) else .inl (D.2.2 (c - 20), n, .inr (.inr (.inr (.inr (aR X a)))))
def RepM (D : DD) (X : Mem) (H : Heap) : Prop := (∀ a c n, mK X a = some (c, n) → (c < 12 ∨ (20 ≤ c ∧ c < 27)) ∧ va_at (D.1, D.2.1) vwCl (a, cellOf D X a c n) H) ∧ mZ X = H.size
def foot (X : Mem) (q : Nat) : Prop := mK X q ≠ none ∨ mZ X ≤ q
abbrev arT : Nat → FieldType := fun t => match t with
  | 0 => .int
  | 1 => .boolean
  | 2 => .long
  | 3 => .object RX4
  | 4 => .object RX5
  | 5 => .object RX3
  | _ => .object RX10
def tysOf (D : DD) : List (ClassId × FieldType) := (List.range 7).map (fun t => (D.2.2 t, arT t))
def gd : List Cond := lw_tbl.filter goodWord
/-- what the tables say, wherever the run stands -/
def AK (D : DD) (U : State) : Prop :=
  va_K (D.1, D.2.1) vwCl (tysOf D) U ∧ (∀ w ∈ gd, ∀ a : Array Value, w.before a U = true) ∧ (∀ w ∈ nestW, va_Nw w U) ∧ (∀ q ∈ strW, ∃ sa, vk_R RX11 q.1 q.2 sa U) ∧ (∀ w ∈ castW, va_Nw w U) ∧ (∀ w ∈ declW, va_Nw w U) ∧ (∀ t, 3 ≤ t → t < 7 → ∃ C, arT t = .object C ∧ va_AO C U)
