/-! COMBINATORS of the functions read off the bytecode, and rows that follow them -/
def bW {α β γ : Type} (o : Option (α × β)) (k : α → β → Option γ) : Option γ := match o with
  | none => none
  | some (a, b) => k a b
def bE {α β : Type} (o : Option (String ⊕ α)) (k : α → Option (String ⊕ β)) : Option (String ⊕ β) := match o with
  | none => none
  | some (.inl E) => some (.inl E)
  | some (.inr a) => k a
def bEW {α β γ : Type} (o : Option (String ⊕ (α × β))) (k : α → β → Option (String ⊕ γ)) : Option (String ⊕ γ) := match o with
  | none => none
  | some (.inl E) => some (.inl E)
  | some (.inr (a, b)) => k a b
def oT {α : Type} (g : α → Option TV) : String ⊕ α → String ⊕ Option TV := fun r => match r with
  | .inl E => .inl E
  | .inr a => .inr (g a)
def xT {α : Type} (X0 : Mem) (g : α → Mem) : String ⊕ α → Mem := fun r => match r with
  | .inl _ => X0
  | .inr a => g a
theorem ob {α β : Type} {o : Option α} {k : α → Option β} {r : β} (h : Option.bind o k = some r) : ∃ a, o = some a ∧ k a = some r := by
  cases o with
  | none => exact nomatch h
  | some a => exact ⟨a, rfl, h⟩
theorem obW {α β γ : Type} {o : Option (α × β)} {k : α → β → Option γ} {r : γ} (h : bW o k = some r) : ∃ a b, o = some (a, b) ∧ k a b = some r := by
  match o, h with
  | none, h => exact nomatch h
  | some (a, b), h => exact ⟨a, b, rfl, h⟩
theorem bE_c {α β : Type} {o : Option (String ⊕ α)} {k : α → Option (String ⊕ β)} {r : String ⊕ β} (h : bE o k = some r) : (∃ E, o = some (.inl E) ∧ r = .inl E) ∨ ∃ a, o = some (.inr a) ∧ k a = some r := by
  match o, h with
  | none, h => exact nomatch h
  | some (.inl E), h => exact Or.inl ⟨E, rfl, (Option.some.inj h).symm⟩
  | some (.inr a), h => exact Or.inr ⟨a, rfl, h⟩
theorem bEW_c {α β γ : Type} {o : Option (String ⊕ (α × β))} {k : α → β → Option (String ⊕ γ)} {r : String ⊕ γ} (h : bEW o k = some r) : (∃ E, o = some (.inl E) ∧ r = .inl E) ∨ ∃ a b, o = some (.inr (a, b)) ∧ k a b = some r := by
  match o, h with
  | none, h => exact nomatch h
  | some (.inl E), h => exact Or.inl ⟨E, rfl, (Option.some.inj h).symm⟩
  | some (.inr (a, b)), h => exact Or.inr ⟨a, b, rfl, h⟩
theorem chk {α : Type} {c : Prop} {hd : Decidable c} {x : Option α} {r : α} (h : (if c then x else none) = some r) : c ∧ x = some r := by
  by_cases hc : c
  · rw [if_pos hc] at h; exact ⟨hc, h⟩
  · rw [if_neg hc] at h; exact nomatch h
theorem chkN {α : Type} {c : Prop} {hd : Decidable c} {x : Option α} {r : α} (h : (if c then none else x) = some r) : ¬ c ∧ x = some r := by
  by_cases hc : c
  · rw [if_pos hc] at h; exact nomatch h
  · rw [if_neg hc] at h; exact ⟨hc, h⟩
def inb (X : Mem) (t a : Nat) (i : Int32) : Bool := match mK X a with
  | some (c, n) => (c == 20 + t) && !(decide (i < 0)) && decide (i.toNatClampNeg < n)
  | none => false
theorem inb_s {X : Mem} {t a : Nat} {i : Int32} (h : inb X t a i = true) : ∃ n, mK X a = some (20 + t, n) ∧ vp_in i n := by
  unfold inb at h
  split at h
  · rename_i c n e
    simp only [Bool.and_eq_true, beq_iff_eq, Bool.not_eq_true', decide_eq_false_iff_not, decide_eq_true_eq] at h
    obtain ⟨⟨h1, h2⟩, h3⟩ := h
    subst h1
    exact ⟨n, e, fun q => q.elim h2 (fun q => by omega)⟩
  · exact nomatch h
def alen (X : Mem) (a : Nat) : Option Nat := match mK X a with
  | some (c, n) => if 20 ≤ c ∧ c < 27 then some n else none
  | none => none
theorem alen_s {X : Mem} {a n : Nat} (h : alen X a = some n) : ∃ t, mK X a = some (20 + t, n) ∧ t < 7 := by
  unfold alen at h
  split at h
  · rename_i c n' e
    obtain ⟨hc, h⟩ := chk h
    cases h
    exact ⟨c - 20, by rw [e, show 20 + (c - 20) = c by omega], by omega⟩
  · exact nomatch h
section HC
variable {D : DD} {A0 : Nat → Prop} {ev : EV} {Q : State → Prop} {X X' : Mem} {cs sl pc : Nat} {L : List (Nat × TV)} {st st9 st10 : List TV} {own nm : String} {cc : ByteArray} {nL : Nat} {ret : Option FieldType} {rm : Room}
variable {y : MethodName} {cc2 : ByteArray} {nL2 n index : Nat} {ret2 : Option FieldType} {rm2 : Room} {As : List TV} {v : Option TV}
theorem h_callV {b ci n9 : Nat} {cs' sl' : Nat} (B : Amb D A0 ev own nm cc nL ret rm) (hc : CalOK y cc2 nL2 ret2 n) (hl : Cond.methodLink own index y ∈ gd) (hi : Cond.instanceMethod y ∈ gd) (hse : Cond.selects y.cls y y ∈ gd) (hk : mK X b = some (ci, n9)) (hci : ci < 12) (hcl : clC ci = y.cls) (hM : ∀ l, l.stackTraces = false → Ctr D l y cc2 nL2 ret2 rm2 (vA (some b) :: As) X (.inr v) X') (hn : As.length = n) (hw : tW st ≤ 8) (hr : rm2.frames + 1 ≤ rm.frames ∧ 8 + (nL2 + 11) + rm2.locals ≤ rm.locals) (hf : cs + rm2.cells ≤ rm.cells ∧ sl + rm2.slots ≤ rm.slots) (d : decode cc pc = .ok (.invokevirtual index, 3)) (e9 : As.reverse ++ vA (some b) :: st = st9) (ec : cs + rm2.cells = cs') (es : sl + rm2.slots = sl') (e10 : v.toList ++ st = st10) (k9 : Gd D A0 ev Q X' cs' sl' (pc + 3) L st10) : Gd D A0 ev Q X cs sl pc L st9 := by
  subst e9; subst ec; subst es; subst e10
  exact g_callV B hc hl hi hse hk hci hcl hM hn hw hr hf d k9
theorem h_callVT {b ci n9 : Nat} {E : String} (B : Amb D A0 ev own nm cc nL ret rm) (hc : CalOK y cc2 nL2 ret2 n) (hl : Cond.methodLink own index y ∈ gd) (hi : Cond.instanceMethod y ∈ gd) (hse : Cond.selects y.cls y y ∈ gd) (hk : mK X b = some (ci, n9)) (hci : ci < 12) (hcl : clC ci = y.cls) (hM : ∀ l, l.stackTraces = false → Ctr D l y cc2 nL2 ret2 rm2 (vA (some b) :: As) X (.inl E) X') (hn : As.length = n) (hw : tW st ≤ 8) (hr : rm2.frames + 1 ≤ rm.frames ∧ 8 + (nL2 + 11) + rm2.locals ≤ rm.locals) (hf : cs + rm2.cells ≤ rm.cells ∧ sl + rm2.slots ≤ rm.slots) (d : decode cc pc = .ok (.invokevirtual index, 3)) (e9 : As.reverse ++ vA (some b) :: st = st9) (k9 : Gx D A0 ev Q X E (cs + rm2.cells) (sl + rm2.slots) pc L st) : Gd D A0 ev Q X cs sl pc L st9 := by
  subst e9
  exact g_callVT B hc hl hi hse hk hci hcl hM hn hw hr hf d k9
theorem h_callS {cs' sl' : Nat} (B : Amb D A0 ev own nm cc nL ret rm) (hc : CalOK y cc2 nL2 ret2 n) (hl : Cond.methodLink own index y ∈ gd) (hi : Cond.static y ∈ gd) (hM : ∀ l, l.stackTraces = false → Ctr D l y cc2 nL2 ret2 rm2 As X (.inr v) X') (hn : As.length = n) (hw : tW st ≤ 8) (hr : rm2.frames + 1 ≤ rm.frames ∧ 8 + (nL2 + 11) + rm2.locals ≤ rm.locals) (hf : cs + rm2.cells ≤ rm.cells ∧ sl + rm2.slots ≤ rm.slots) (d : decode cc pc = .ok (.invokestatic index, 3)) (e9 : As.reverse ++ st = st9) (ec : cs + rm2.cells = cs') (es : sl + rm2.slots = sl') (e10 : v.toList ++ st = st10) (k9 : Gd D A0 ev Q X' cs' sl' (pc + 3) L st10) : Gd D A0 ev Q X cs sl pc L st9 := by
  subst e9; subst ec; subst es; subst e10
  exact g_callS B hc hl hi hM hn hw hr hf d k9
theorem h_callST {E : String} (B : Amb D A0 ev own nm cc nL ret rm) (hc : CalOK y cc2 nL2 ret2 n) (hl : Cond.methodLink own index y ∈ gd) (hi : Cond.static y ∈ gd) (hM : ∀ l, l.stackTraces = false → Ctr D l y cc2 nL2 ret2 rm2 As X (.inl E) X') (hn : As.length = n) (hw : tW st ≤ 8) (hr : rm2.frames + 1 ≤ rm.frames ∧ 8 + (nL2 + 11) + rm2.locals ≤ rm.locals) (hf : cs + rm2.cells ≤ rm.cells ∧ sl + rm2.slots ≤ rm.slots) (d : decode cc pc = .ok (.invokestatic index, 3)) (e9 : As.reverse ++ st = st9) (k9 : Gx D A0 ev Q X E (cs + rm2.cells) (sl + rm2.slots) pc L st) : Gd D A0 ev Q X cs sl pc L st9 := by
  subst e9
  exact g_callST B hc hl hi hM hn hw hr hf d k9
theorem h_callSN {host : String} {cs' sl' : Nat} (B : Amb D A0 ev own nm cc nL ret rm) (hc : CalOK y cc2 nL2 ret2 n) (hl : Cond.methodLinkNest own index y host ∈ nestW) (hi : Cond.static y ∈ gd) (hM : ∀ l, l.stackTraces = false → Ctr D l y cc2 nL2 ret2 rm2 As X (.inr v) X') (hn : As.length = n) (hw : tW st ≤ 8) (hr : rm2.frames + 1 ≤ rm.frames ∧ 8 + (nL2 + 11) + rm2.locals ≤ rm.locals) (hf : cs + rm2.cells ≤ rm.cells ∧ sl + rm2.slots ≤ rm.slots) (d : decode cc pc = .ok (.invokestatic index, 3)) (e9 : As.reverse ++ st = st9) (ec : cs + rm2.cells = cs') (es : sl + rm2.slots = sl') (e10 : v.toList ++ st = st10) (k9 : Gd D A0 ev Q X' cs' sl' (pc + 3) L st10) : Gd D A0 ev Q X cs sl pc L st9 := by
  subst e9; subst ec; subst es; subst e10
  exact g_callSN B hc hl hi hM hn hw hr hf d k9
theorem h_callI {b : Nat} {cs' sl' : Nat} (B : Amb D A0 ev own nm cc nL ret rm) (hc : CalOK y cc2 nL2 none n) (hl : Cond.methodLink own index y ∈ gd) (hi : Cond.instanceMethod y ∈ gd) (hyn : y.name = "<init>") (hM : ∀ l, l.stackTraces = false → Ctr D l y cc2 nL2 none rm2 (vA (some b) :: As) X (.inr none) X') (hn : As.length = n) (hw : tW st ≤ 8) (hr : rm2.frames + 1 ≤ rm.frames ∧ 8 + (nL2 + 11) + rm2.locals ≤ rm.locals) (hf : cs + rm2.cells ≤ rm.cells ∧ sl + rm2.slots ≤ rm.slots) (d : decode cc pc = .ok (.invokespecial index, 3)) (e9 : As.reverse ++ vA (some b) :: st = st9) (ec : cs + rm2.cells = cs') (es : sl + rm2.slots = sl') (k9 : Gd D A0 ev Q X' cs' sl' (pc + 3) L st) : Gd D A0 ev Q X cs sl pc L st9 := by
  subst e9; subst ec; subst es
  exact g_callI B hc hl hi hyn hM hn hw hr hf d k9
theorem h_callIN {b : Nat} {host : String} {cs' sl' : Nat} (B : Amb D A0 ev own nm cc nL ret rm) (hc : CalOK y cc2 nL2 none n) (hl : Cond.methodLinkNest own index y host ∈ nestW) (hi : Cond.instanceMethod y ∈ gd) (hyn : y.name = "<init>") (hM : ∀ l, l.stackTraces = false → Ctr D l y cc2 nL2 none rm2 (vA (some b) :: As) X (.inr none) X') (hn : As.length = n) (hw : tW st ≤ 8) (hr : rm2.frames + 1 ≤ rm.frames ∧ 8 + (nL2 + 11) + rm2.locals ≤ rm.locals) (hf : cs + rm2.cells ≤ rm.cells ∧ sl + rm2.slots ≤ rm.slots) (d : decode cc pc = .ok (.invokespecial index, 3)) (e9 : As.reverse ++ vA (some b) :: st = st9) (ec : cs + rm2.cells = cs') (es : sl + rm2.slots = sl') (k9 : Gd D A0 ev Q X' cs' sl' (pc + 3) L st) : Gd D A0 ev Q X cs sl pc L st9 := by
  subst e9; subst ec; subst es
  exact g_callIN B hc hl hi hyn hM hn hw hr hf d k9
end HC
/-! THE REFERENCE's state: scalars by field, arrays by rank; its memory lies at m, m + 1 .. -/
abbrev SM : Type := (Nat → Int32) × (Nat → Nat → Int32) × (Nat → Nat → Int64)
def sc (S : SM) : Nat → Int32 := S.1
def ar (S : SM) : Nat → Nat → Int32 := S.2.1
def al (S : SM) : Nat → Nat → Int64 := S.2.2
def uc (S : SM) (k : Nat) (v : Int32) : SM := (fun j => if j = k then v else sc S j, ar S, al S)
def ua (S : SM) (r i : Nat) (v : Int32) : SM := (sc S, up2 (ar S) r i v, al S)
def ul (S : SM) (r i : Nat) (v : Int64) : SM := (sc S, ar S, up2 (al S) r i v)
def akind : Nat → Nat × Nat := fun r => match r with
  | 0 => (20, 30)
  | 1 => (20, 30)
  | 2 => (20, 30)
  | 3 => (21, 30)
  | 4 => (20, 30)
  | 5 => (20, 30)
  | 6 => (20, 900)
  | 7 => (20, 900)
  | 8 => (20, 900)
  | 9 => (21, 900)
  | 10 => (20, 30)
  | 11 => (20, 30)
  | 12 => (20, 30)
  | 13 => (20, 480)
  | 14 => (20, 480)
  | 15 => (20, 4)
  | 16 => (20, 300)
  | 17 => (20, 300)
  | 18 => (20, 601)
  | 19 => (20, 60)
  | 20 => (20, 4)
  | 21 => (20, 4)
  | 22 => (20, 961)
  | 23 => (20, 6)
  | 24 => (20, 6)
  | 25 => (20, 6)
  | 26 => (20, 24)
  | 27 => (20, 24)
  | 28 => (21, 24)
  | 29 => (22, 40)
  | 30 => (20, 24)
  | _ => (0, 0)
def inS (t r : Nat) (i : Int32) : Bool := decide (r < 31) && ((akind r).1 == 20 + t) && !(decide (i < 0)) && decide (i.toNatClampNeg < (akind r).2)
