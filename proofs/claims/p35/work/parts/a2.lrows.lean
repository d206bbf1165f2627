/-! THE LAW's MEMORY: the class's beside the law's own arrays -/
abbrev LwP : Type := Mem × Mem
def lM (P : LwP) : Mem := uM P.1 P.2
noncomputable def apC {α : Type} (P : LwP) (k : Option α) : Option α := @ite _ (apM P.1 P.2) (Classical.propDecidable _) k none
theorem apC_s {α : Type} {P : LwP} {k : Option α} {r : α} (h : apC P k = some r) : apM P.1 P.2 ∧ k = some r := by
  unfold apC at h
  by_cases c : apM P.1 P.2
  · rw [if_pos c] at h
    exact ⟨c, h⟩
  · rw [if_neg c] at h
    exact nomatch h
theorem apC_ok {α : Type} {P : LwP} {k : Option α} (h : apM P.1 P.2) : apC P k = k := if_pos h
def nT {α β : Type} (o : Option (String ⊕ α)) (k : α → Option β) : Option β := match o with
  | some (.inr a) => k a
  | _ => none
def nTW {α β γ : Type} (o : Option (String ⊕ (α × β))) (k : α → β → Option γ) : Option γ := match o with
  | some (.inr (a, b)) => k a b
  | _ => none
theorem nT_s {α β : Type} {o : Option (String ⊕ α)} {k : α → Option β} {r : β} (h : nT o k = some r) : ∃ a, o = some (.inr a) ∧ k a = some r := by
  match o, h with
  | none, h => exact nomatch h
  | some (.inl E), h => exact nomatch h
  | some (.inr a), h => exact ⟨a, rfl, h⟩
theorem nTW_s {α β γ : Type} {o : Option (String ⊕ (α × β))} {k : α → β → Option γ} {r : γ} (h : nTW o k = some r) : ∃ a b, o = some (.inr (a, b)) ∧ k a b = some r := by
  match o, h with
  | none, h => exact nomatch h
  | some (.inl E), h => exact nomatch h
  | some (.inr (a, b)), h => exact ⟨a, b, rfl, h⟩
theorem uM_sI {X Y : Mem} {a i : Nat} {v : Int32} (hx : mK X a = none) : sI (uM X Y) a i v = uM X (sI Y a i v) := by
  have e : up2 (aI (uM X Y)) a i v = aI (uM X (sI Y a i v)) := by
    funext b j
    show (if b = a ∧ j = i then v else aI (uM X Y) b j) = (if (mK X b).isSome then aI X b else up2 (aI Y) a i v b) j
    by_cases hb : (mK X b).isSome = true
    · rw [if_pos hb, if_neg (fun q => by rw [q.1, hx] at hb; exact absurd hb (by decide))]
      exact congrFun (if_pos hb) j
    · rw [if_neg hb]
      show (if b = a ∧ j = i then v else aI (uM X Y) b j) = if b = a ∧ j = i then v else aI Y b j
      have e2 : aI (uM X Y) b = aI Y b := if_neg hb
      rw [e2]
  show (mK (uM X Y), mI (uM X Y), mR (uM X Y), up2 (aI (uM X Y)) a i v, aJ (uM X Y), aR (uM X Y), mZ (uM X Y)) = uM X (sI Y a i v)
  rw [e]
  rfl
theorem uM_sJ9 {X Y : Mem} {a i : Nat} {v : Int64} (hx : mK X a = none) : sJ (uM X Y) a i v = uM X (sJ Y a i v) := by
  have e : up2 (aJ (uM X Y)) a i v = aJ (uM X (sJ Y a i v)) := by
    funext b j
    show (if b = a ∧ j = i then v else aJ (uM X Y) b j) = (if (mK X b).isSome then aJ X b else up2 (aJ Y) a i v b) j
    by_cases hb : (mK X b).isSome = true
    · rw [if_pos hb, if_neg (fun q => by rw [q.1, hx] at hb; exact absurd hb (by decide))]
      exact congrFun (if_pos hb) j
    · rw [if_neg hb]
      show (if b = a ∧ j = i then v else aJ (uM X Y) b j) = if b = a ∧ j = i then v else aJ Y b j
      have e2 : aJ (uM X Y) b = aJ Y b := if_neg hb
      rw [e2]
  show (mK (uM X Y), mI (uM X Y), mR (uM X Y), aI (uM X Y), up2 (aJ (uM X Y)) a i v, aR (uM X Y), mZ (uM X Y)) = uM X (sJ Y a i v)
  rw [e]
  rfl
theorem uM_nA {X Y : Mem} {t n : Nat} (hx : mK X (mZ X) = none) : nA (uM X Y) t n = uM (zM X (mZ X + 1)) (nA (zM Y (mZ X)) t n) := by
  have hs : ¬ (mK X (mZ X)).isSome = true := by rw [hx]; decide
  have e1 : (fun b => if b = mZ X then some (20 + t, n) else mK (uM X Y) b) = mK (uM (zM X (mZ X + 1)) (nA (zM Y (mZ X)) t n)) := by
    funext b
    show (if b = mZ X then some (20 + t, n) else match mK X b with
      | some k => some k
      | none => mK Y b) = match mK X b with
      | some k => some k
      | none => if b = mZ X then some (20 + t, n) else mK Y b
    by_cases h : b = mZ X
    · rw [if_pos h, h, hx, if_pos rfl]
    · rw [if_neg h, if_neg h]
  have e2 : (fun (b i : Nat) => if b = mZ X then (0 : Int32) else aI (uM X Y) b i) = aI (uM (zM X (mZ X + 1)) (nA (zM Y (mZ X)) t n)) := by
    funext b i
    show (if b = mZ X then (0 : Int32) else (if (mK X b).isSome then aI X b else aI Y b) i) = (if (mK X b).isSome then aI X b else fun i => if b = mZ X then 0 else aI Y b i) i
    by_cases h : b = mZ X
    · rw [if_pos h, h, if_neg hs, if_pos rfl]
    · rw [if_neg h]
      by_cases hb : (mK X b).isSome = true
      · rw [if_pos hb, if_pos hb]
      · rw [if_neg hb, if_neg hb]
        show aI Y b i = if b = mZ X then 0 else aI Y b i
        rw [if_neg h]
  have e3 : (fun (b i : Nat) => if b = mZ X then (0 : Int64) else aJ (uM X Y) b i) = aJ (uM (zM X (mZ X + 1)) (nA (zM Y (mZ X)) t n)) := by
    funext b i
    show (if b = mZ X then (0 : Int64) else (if (mK X b).isSome then aJ X b else aJ Y b) i) = (if (mK X b).isSome then aJ X b else fun i => if b = mZ X then 0 else aJ Y b i) i
    by_cases h : b = mZ X
    · rw [if_pos h, h, if_neg hs, if_pos rfl]
    · rw [if_neg h]
      by_cases hb : (mK X b).isSome = true
      · rw [if_pos hb, if_pos hb]
      · rw [if_neg hb, if_neg hb]
        show aJ Y b i = if b = mZ X then 0 else aJ Y b i
        rw [if_neg h]
  have e4 : (fun (b i : Nat) => if b = mZ X then (none : Option Nat) else aR (uM X Y) b i) = aR (uM (zM X (mZ X + 1)) (nA (zM Y (mZ X)) t n)) := by
    funext b i
    show (if b = mZ X then (none : Option Nat) else (if (mK X b).isSome then aR X b else aR Y b) i) = (if (mK X b).isSome then aR X b else fun i => if b = mZ X then none else aR Y b i) i
    by_cases h : b = mZ X
    · rw [if_pos h, h, if_neg hs, if_pos rfl]
    · rw [if_neg h]
      by_cases hb : (mK X b).isSome = true
      · rw [if_pos hb, if_pos hb]
      · rw [if_neg hb, if_neg hb]
        show aR Y b i = if b = mZ X then none else aR Y b i
        rw [if_neg h]
  show ((fun b => if b = mZ X then some (20 + t, n) else mK (uM X Y) b), mI (uM X Y), mR (uM X Y), (fun (b i : Nat) => if b = mZ X then (0 : Int32) else aI (uM X Y) b i), (fun (b i : Nat) => if b = mZ X then (0 : Int64) else aJ (uM X Y) b i), (fun (b i : Nat) => if b = mZ X then (none : Option Nat) else aR (uM X Y) b i), mZ X + 1) = _
  rw [e1, e2, e3, e4]
  rfl
section GP
variable {D : DD} {A0 : Nat → Prop} {ev : EV} {Q : State → Prop} {P P1 : LwP} {cs sl pc : Nat} {L : List (Nat × TV)} {st st9 st10 : List TV} {own nm : String} {cc : ByteArray} {nL : Nat} {ret : Option FieldType} {rm : Room}
theorem ap_none {a t : Nat} {i : Int32} (hap : apM P.1 P.2) (h : inb P.2 t a i = true) : mK P.1 a = none := by
  obtain ⟨n, hk, -⟩ := inb_s h
  exact hap a (by rw [hk]; exact fun z => nomatch z)
theorem gp_iald {a : Nat} {i : Int32} (B : Amb D A0 ev own nm cc nL ret rm) (hap : apM P.1 P.2) (h : inb P.2 0 a i = true) (d : decode cc pc = .ok (.iaload, 1)) (k9 : Gd D A0 ev Q (lM P) cs sl (pc + 1) L (vI (aI P.2 a i.toNatClampNeg) :: st)) : Gd D A0 ev Q (lM P) cs sl pc L (vI i :: vA (some a) :: st) := by
  have hx := ap_none hap h
  obtain ⟨n, hk, hi⟩ := inb_s h
  have e : aI (lM P) a = aI P.2 a := if_neg (by rw [hx]; decide)
  refine g_iald B ((uM_Kr hx).trans hk) hi d ?_
  rw [e]
  exact k9
theorem gp_lald {a : Nat} {i : Int32} (B : Amb D A0 ev own nm cc nL ret rm) (hap : apM P.1 P.2) (h : inb P.2 2 a i = true) (d : decode cc pc = .ok (.laload, 1)) (k9 : Gd D A0 ev Q (lM P) cs sl (pc + 1) L (vJ (aJ P.2 a i.toNatClampNeg) :: st)) : Gd D A0 ev Q (lM P) cs sl pc L (vI i :: vA (some a) :: st) := by
  have hx := ap_none hap h
  obtain ⟨n, hk, hi⟩ := inb_s h
  have e : aJ (lM P) a = aJ P.2 a := if_neg (by rw [hx]; decide)
  refine g_lald B ((uM_Kr hx).trans hk) hi d ?_
  rw [e]
  exact k9
theorem gp_iast {a : Nat} {i x : Int32} (B : Amb D A0 ev own nm cc nL ret rm) (hap : apM P.1 P.2) (h : inb P.2 0 a i = true) (d : decode cc pc = .ok (.iastore, 1)) (k9 : Gd D A0 ev Q (lM (P.1, sI P.2 a i.toNatClampNeg x)) cs sl (pc + 1) L st) : Gd D A0 ev Q (lM P) cs sl pc L (vI x :: vI i :: vA (some a) :: st) := by
  have hx := ap_none hap h
  obtain ⟨n, hk, hi⟩ := inb_s h
  refine g_iast B ((uM_Kr hx).trans hk) hi d ?_
  have e : sI (lM P) a i.toNatClampNeg x = lM (P.1, sI P.2 a i.toNatClampNeg x) := uM_sI hx
  rw [e]
  exact k9
theorem gp_last {a : Nat} {i : Int32} {x : Int64} (B : Amb D A0 ev own nm cc nL ret rm) (hap : apM P.1 P.2) (h : inb P.2 2 a i = true) (d : decode cc pc = .ok (.lastore, 1)) (k9 : Gd D A0 ev Q (lM (P.1, sJ P.2 a i.toNatClampNeg x)) cs sl (pc + 1) L st) : Gd D A0 ev Q (lM P) cs sl pc L (vJ x :: vI i :: vA (some a) :: st) := by
  have hx := ap_none hap h
  obtain ⟨n, hk, hi⟩ := inb_s h
  refine g_last B ((uM_Kr hx).trans hk) hi d ?_
  have e : sJ (lM P) a i.toNatClampNeg x = lM (P.1, sJ P.2 a i.toNatClampNeg x) := uM_sJ9 hx
  rw [e]
  exact k9
theorem gp_newa {q : Nat} {atype : ArrayType} {t N : Nat} {n : Int32} (B : Amb D A0 ev own nm cc nL ret rm) (eq : some (mZ P.1) = some q) (eX : some ((zM P.1 (mZ P.1 + 1), nA (zM P.2 (mZ P.1)) t N) : LwP) = some P1) (hap : apM P1.1 P1.2) (h3 : t < 3) (hty : newarray.typeOf atype = arT t) (la : Cond.arrayClass (newarray.typeOf atype) ∈ gd) (hn : ¬ n < 0) (hN : n.toNatClampNeg = N) (hby : N * 8 ≤ 536870912) (hcs : cs + 1 ≤ rm.cells) (hsl : sl + N ≤ rm.slots) (d : decode cc pc = .ok (.newarray atype, 2)) (k9 : Gd D A0 ev Q (lM P1) (cs + 1) (sl + N) (pc + 2) L (vA (some q) :: st)) : Gd D A0 ev Q (lM P) cs sl pc L (vI n :: st) := by
  cases eX; cases eq
  have hx : mK P.1 (mZ P.1) = none := hap (mZ P.1) (by
    show (if mZ P.1 = mZ P.1 then some (20 + t, N) else _) ≠ none
    rw [if_pos rfl]
    exact fun z => nomatch z)
  refine g_newa B h3 hty la hn hN hby hcs hsl d ?_
  have e : nA (lM P) t N = lM (zM P.1 (mZ P.1 + 1), nA (zM P.2 (mZ P.1)) t N) := uM_nA hx
  rw [e]
  exact k9
variable {y : MethodName} {cc2 : ByteArray} {nL2 n index : Nat} {ret2 : Option FieldType} {rm2 : Room} {As : List TV} {v : Int32}
theorem p_callV {b : Nat} {cs' sl' : Nat} (B : Amb D A0 ev own nm cc nL ret rm) (hc : CalOK y cc2 nL2 ret2 n) (hl : Cond.methodLink own index y ∈ gd) (hi : Cond.instanceMethod y ∈ gd) (hse : Cond.selects y.cls y y ∈ gd) (hap : apM P.1 P.2) (hk : mK P.1 b = some (11, 0)) (hcl : clC 11 = y.cls) (hM : ∀ l, l.stackTraces = false → Ctr D l y cc2 nL2 ret2 rm2 (vA (some b) :: As) P.1 (.inr (some (vI v))) P.1) (hn : As.length = n) (hw : tW st ≤ 8) (hr : rm2.frames + 1 ≤ rm.frames ∧ 8 + (nL2 + 11) + rm2.locals ≤ rm.locals) (hf : cs + rm2.cells ≤ rm.cells ∧ sl + rm2.slots ≤ rm.slots) (d : decode cc pc = .ok (.invokevirtual index, 3)) (e9 : As.reverse ++ vA (some b) :: st = st9) (ec : cs + rm2.cells = cs') (es : sl + rm2.slots = sl') (e10 : vI v :: st = st10) (k9 : Gd D A0 ev Q (lM P) cs' sl' (pc + 3) L st10) : Gd D A0 ev Q (lM P) cs sl pc L st9 :=
  h_callV (v := some (vI v)) (X' := lM P) B hc hl hi hse (uM_Kl hk) (by decide) hcl (fun l h => (hM l h).frame P.2 hap) hn hw hr hf d e9 ec es e10 k9
theorem p_callVW {X1 : Mem} {b : Nat} {cs' sl' : Nat} (B : Amb D A0 ev own nm cc nL ret rm) (hc : CalOK y cc2 nL2 ret2 n) (hl : Cond.methodLink own index y ∈ gd) (hi : Cond.instanceMethod y ∈ gd) (hse : Cond.selects y.cls y y ∈ gd) (hap : apM P.1 P.2) (hk : mK P.1 b = some (11, 0)) (hcl : clC 11 = y.cls) (hM : ∀ l, l.stackTraces = false → Ctr D l y cc2 nL2 ret2 rm2 (vA (some b) :: As) P.1 (.inr (some (vI v))) X1) (eX : some ((X1, P.2) : LwP) = some P1) (hn : As.length = n) (hw : tW st ≤ 8) (hr : rm2.frames + 1 ≤ rm.frames ∧ 8 + (nL2 + 11) + rm2.locals ≤ rm.locals) (hf : cs + rm2.cells ≤ rm.cells ∧ sl + rm2.slots ≤ rm.slots) (d : decode cc pc = .ok (.invokevirtual index, 3)) (e9 : As.reverse ++ vA (some b) :: st = st9) (ec : cs + rm2.cells = cs') (es : sl + rm2.slots = sl') (e10 : vI v :: st = st10) (k9 : Gd D A0 ev Q (lM P1) cs' sl' (pc + 3) L st10) : Gd D A0 ev Q (lM P) cs sl pc L st9 := by
  cases eX
  exact h_callV (v := some (vI v)) (X' := lM (X1, P.2)) B hc hl hi hse (uM_Kl hk) (by decide) hcl (fun l h => (hM l h).frame P.2 hap) hn hw hr hf d e9 ec es e10 k9
end GP
