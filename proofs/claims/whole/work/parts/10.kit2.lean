/-! COMBINATORS of the functions read off the bytecode, and rows that follow them -/
def bW {α β γ : Type} (o : Option (α × β)) (k : α → β → Option γ) : Option γ := match o with
  | none => none
  | some (a, b) => k a b
def bE {α β : Type} (o : Option (String ⊕ α)) (k : α → Option (String ⊕ β)) : Option (String ⊕ β) := match o with
  | none => none
  | some (.inl E) => some (.inl E)
  | some (.inr a) => k a
def bEW {α β γ : Type} (o : Option (String ⊕ (α × β))) (k : α → β → Option (String ⊕ γ)) : Option (String ⊕ γ) := match o with
  | none => none
  | some (.inl E) => some (.inl E)
  | some (.inr (a, b)) => k a b
def oT {α : Type} (g : α → Option TV) : String ⊕ α → String ⊕ Option TV := fun r => match r with
  | .inl E => .inl E
  | .inr a => .inr (g a)
def xT {α : Type} (X0 : Mem) (g : α → Mem) : String ⊕ α → Mem := fun r => match r with
  | .inl _ => X0
  | .inr a => g a
theorem ob {α β : Type} {o : Option α} {k : α → Option β} {r : β} (h : Option.bind o k = some r) : ∃ a, o = some a ∧ k a = some r := by
  cases o with
  | none => exact nomatch h
  | some a => exact ⟨a, rfl, h⟩
theorem obW {α β γ : Type} {o : Option (α × β)} {k : α → β → Option γ} {r : γ} (h : bW o k = some r) : ∃ a b, o = some (a, b) ∧ k a b = some r := by
  match o, h with
  | none, h => exact nomatch h
  | some (a, b), h => exact ⟨a, b, rfl, h⟩
theorem bE_c {α β : Type} {o : Option (String ⊕ α)} {k : α → Option (String ⊕ β)} {r : String ⊕ β} (h : bE o k = some r) : (∃ E, o = some (.inl E) ∧ r = .inl E) ∨ ∃ a, o = some (.inr a) ∧ k a = some r := by
  match o, h with
  | none, h => exact nomatch h
  | some (.inl E), h => exact Or.inl ⟨E, rfl, (Option.some.inj h).symm⟩
  | some (.inr a), h => exact Or.inr ⟨a, rfl, h⟩
theorem bEW_c {α β γ : Type} {o : Option (String ⊕ (α × β))} {k : α → β → Option (String ⊕ γ)} {r : String ⊕ γ} (h : bEW o k = some r) : (∃ E, o = some (.inl E) ∧ r = .inl E) ∨ ∃ a b, o = some (.inr (a, b)) ∧ k a b = some r := by
  match o, h with
  | none, h => exact nomatch h
  | some (.inl E), h => exact Or.inl ⟨E, rfl, (Option.some.inj h).symm⟩
  | some (.inr (a, b)), h => exact Or.inr ⟨a, b, rfl, h⟩
theorem chk {α : Type} {c : Prop} {hd : Decidable c} {x : Option α} {r : α} (h : (if c then x else none) = some r) : c ∧ x = some r := by
  by_cases hc : c
  · rw [if_pos hc] at h; exact ⟨hc, h⟩
  · rw [if_neg hc] at h; exact nomatch h
theorem chkN {α : Type} {c : Prop} {hd : Decidable c} {x : Option α} {r : α} (h : (if c then none else x) = some r) : ¬ c ∧ x = some r := by
  by_cases hc : c
  · rw [if_pos hc] at h; exact nomatch h
  · rw [if_neg hc] at h; exact ⟨hc, h⟩
def inb (X : Mem) (t a : Nat) (i : Int32) : Bool := match mK X a with
  | some (c, n) => (c == 20 + t) && !(decide (i < 0)) && decide (i.toNatClampNeg < n)
  | none => false
theorem inb_s {X : Mem} {t a : Nat} {i : Int32} (h : inb X t a i = true) : ∃ n, mK X a = some (20 + t, n) ∧ vp_in i n := by
  unfold inb at h
  split at h
  · rename_i c n e
    simp only [Bool.and_eq_true, beq_iff_eq, Bool.not_eq_true', decide_eq_false_iff_not, decide_eq_true_eq] at h
    obtain ⟨⟨h1, h2⟩, h3⟩ := h
    subst h1
    exact ⟨n, e, fun q => q.elim h2 (fun q => by omega)⟩
  · exact nomatch h
def alen (X : Mem) (a : Nat) : Option Nat := match mK X a with
  | some (c, n) => if 20 ≤ c ∧ c < 27 then some n else none
  | none => none
theorem alen_s {X : Mem} {a n : Nat} (h : alen X a = some n) : ∃ t, mK X a = some (20 + t, n) ∧ t < 7 := by
  unfold alen at h
  split at h
  · rename_i c n' e
    obtain ⟨hc, h⟩ := chk h
    cases h
    exact ⟨c - 20, by rw [e, show 20 + (c - 20) = c by omega], by omega⟩
  · exact nomatch h
section HC
variable {D : DD} {A0 : Nat → Prop} {ev : EV} {Q : State → Prop} {X X' : Mem} {cs sl pc : Nat} {L : List (Nat × TV)} {st st9 st10 : List TV} {own nm : String} {cc : ByteArray} {nL : Nat} {ret : Option FieldType} {rm : Room}
variable {y : MethodName} {cc2 : ByteArray} {nL2 n index : Nat} {ret2 : Option FieldType} {rm2 : Room} {As : List TV} {v : Option TV}
theorem h_callV {b ci n9 : Nat} {cs' sl' : Nat} (B : Amb D A0 ev own nm cc nL ret rm) (hc : CalOK y cc2 nL2 ret2 n) (hl : Cond.methodLink own index y ∈ gd) (hi : Cond.instanceMethod y ∈ gd) (hse : Cond.selects y.cls y y ∈ gd) (hk : mK X b = some (ci, n9)) (hci : ci < 13) (hcl : clC ci = y.cls) (hM : ∀ l, l.stackTraces = false → Ctr D l y cc2 nL2 ret2 rm2 (vA (some b) :: As) X (.inr v) X') (hn : As.length = n) (hw : tW st ≤ 8) (hr : rm2.frames + 1 ≤ rm.frames ∧ 8 + (nL2 + 11) + rm2.locals ≤ rm.locals) (hf : cs + rm2.cells ≤ rm.cells ∧ sl + rm2.slots ≤ rm.slots) (d : decode cc pc = .ok (.invokevirtual index, 3)) (e9 : As.reverse ++ vA (some b) :: st = st9) (ec : cs + rm2.cells = cs') (es : sl + rm2.slots = sl') (e10 : v.toList ++ st = st10) (k9 : Gd D A0 ev Q X' cs' sl' (pc + 3) L st10) : Gd D A0 ev Q X cs sl pc L st9 := by
  subst e9; subst ec; subst es; subst e10
  exact g_callV B hc hl hi hse hk hci hcl hM hn hw hr hf d k9
theorem h_callVT {b ci n9 : Nat} {E : String} (B : Amb D A0 ev own nm cc nL ret rm) (hc : CalOK y cc2 nL2 ret2 n) (hl : Cond.methodLink own index y ∈ gd) (hi : Cond.instanceMethod y ∈ gd) (hse : Cond.selects y.cls y y ∈ gd) (hk : mK X b = some (ci, n9)) (hci : ci < 13) (hcl : clC ci = y.cls) (hM : ∀ l, l.stackTraces = false → Ctr D l y cc2 nL2 ret2 rm2 (vA (some b) :: As) X (.inl E) X') (hn : As.length = n) (hw : tW st ≤ 8) (hr : rm2.frames + 1 ≤ rm.frames ∧ 8 + (nL2 + 11) + rm2.locals ≤ rm.locals) (hf : cs + rm2.cells ≤ rm.cells ∧ sl + rm2.slots ≤ rm.slots) (d : decode cc pc = .ok (.invokevirtual index, 3)) (e9 : As.reverse ++ vA (some b) :: st = st9) (k9 : Gx D A0 ev Q X E (cs + rm2.cells) (sl + rm2.slots) pc L st) : Gd D A0 ev Q X cs sl pc L st9 := by
  subst e9
  exact g_callVT B hc hl hi hse hk hci hcl hM hn hw hr hf d k9
theorem h_callS {cs' sl' : Nat} (B : Amb D A0 ev own nm cc nL ret rm) (hc : CalOK y cc2 nL2 ret2 n) (hl : Cond.methodLink own index y ∈ gd) (hi : Cond.static y ∈ gd) (hM : ∀ l, l.stackTraces = false → Ctr D l y cc2 nL2 ret2 rm2 As X (.inr v) X') (hn : As.length = n) (hw : tW st ≤ 8) (hr : rm2.frames + 1 ≤ rm.frames ∧ 8 + (nL2 + 11) + rm2.locals ≤ rm.locals) (hf : cs + rm2.cells ≤ rm.cells ∧ sl + rm2.slots ≤ rm.slots) (d : decode cc pc = .ok (.invokestatic index, 3)) (e9 : As.reverse ++ st = st9) (ec : cs + rm2.cells = cs') (es : sl + rm2.slots = sl') (e10 : v.toList ++ st = st10) (k9 : Gd D A0 ev Q X' cs' sl' (pc + 3) L st10) : Gd D A0 ev Q X cs sl pc L st9 := by
  subst e9; subst ec; subst es; subst e10
  exact g_callS B hc hl hi hM hn hw hr hf d k9
theorem h_callST {E : String} (B : Amb D A0 ev own nm cc nL ret rm) (hc : CalOK y cc2 nL2 ret2 n) (hl : Cond.methodLink own index y ∈ gd) (hi : Cond.static y ∈ gd) (hM : ∀ l, l.stackTraces = false → Ctr D l y cc2 nL2 ret2 rm2 As X (.inl E) X') (hn : As.length = n) (hw : tW st ≤ 8) (hr : rm2.frames + 1 ≤ rm.frames ∧ 8 + (nL2 + 11) + rm2.locals ≤ rm.locals) (hf : cs + rm2.cells ≤ rm.cells ∧ sl + rm2.slots ≤ rm.slots) (d : decode cc pc = .ok (.invokestatic index, 3)) (e9 : As.reverse ++ st = st9) (k9 : Gx D A0 ev Q X E (cs + rm2.cells) (sl + rm2.slots) pc L st) : Gd D A0 ev Q X cs sl pc L st9 := by
  subst e9
  exact g_callST B hc hl hi hM hn hw hr hf d k9
theorem h_callSN {host : String} {cs' sl' : Nat} (B : Amb D A0 ev own nm cc nL ret rm) (hc : CalOK y cc2 nL2 ret2 n) (hl : Cond.methodLinkNest own index y host ∈ nestW) (hi : Cond.static y ∈ gd) (hM : ∀ l, l.stackTraces = false → Ctr D l y cc2 nL2 ret2 rm2 As X (.inr v) X') (hn : As.length = n) (hw : tW st ≤ 8) (hr : rm2.frames + 1 ≤ rm.frames ∧ 8 + (nL2 + 11) + rm2.locals ≤ rm.locals) (hf : cs + rm2.cells ≤ rm.cells ∧ sl + rm2.slots ≤ rm.slots) (d : decode cc pc = .ok (.invokestatic index, 3)) (e9 : As.reverse ++ st = st9) (ec : cs + rm2.cells = cs') (es : sl + rm2.slots = sl') (e10 : v.toList ++ st = st10) (k9 : Gd D A0 ev Q X' cs' sl' (pc + 3) L st10) : Gd D A0 ev Q X cs sl pc L st9 := by
  subst e9; subst ec; subst es; subst e10
  exact g_callSN B hc hl hi hM hn hw hr hf d k9
theorem h_callI {b : Nat} {cs' sl' : Nat} (B : Amb D A0 ev own nm cc nL ret rm) (hc : CalOK y cc2 nL2 none n) (hl : Cond.methodLink own index y ∈ gd) (hi : Cond.instanceMethod y ∈ gd) (hyn : y.name = "<init>") (hM : ∀ l, l.stackTraces = false → Ctr D l y cc2 nL2 none rm2 (vA (some b) :: As) X (.inr none) X') (hn : As.length = n) (hw : tW st ≤ 8) (hr : rm2.frames + 1 ≤ rm.frames ∧ 8 + (nL2 + 11) + rm2.locals ≤ rm.locals) (hf : cs + rm2.cells ≤ rm.cells ∧ sl + rm2.slots ≤ rm.slots) (d : decode cc pc = .ok (.invokespecial index, 3)) (e9 : As.reverse ++ vA (some b) :: st = st9) (ec : cs + rm2.cells = cs') (es : sl + rm2.slots = sl') (k9 : Gd D A0 ev Q X' cs' sl' (pc + 3) L st) : Gd D A0 ev Q X cs sl pc L st9 := by
  subst e9; subst ec; subst es
  exact g_callI B hc hl hi hyn hM hn hw hr hf d k9
theorem h_callIN {b : Nat} {host : String} {cs' sl' : Nat} (B : Amb D A0 ev own nm cc nL ret rm) (hc : CalOK y cc2 nL2 none n) (hl : Cond.methodLinkNest own index y host ∈ nestW) (hi : Cond.instanceMethod y ∈ gd) (hyn : y.name = "<init>") (hM : ∀ l, l.stackTraces = false → Ctr D l y cc2 nL2 none rm2 (vA (some b) :: As) X (.inr none) X') (hn : As.length = n) (hw : tW st ≤ 8) (hr : rm2.frames + 1 ≤ rm.frames ∧ 8 + (nL2 + 11) + rm2.locals ≤ rm.locals) (hf : cs + rm2.cells ≤ rm.cells ∧ sl + rm2.slots ≤ rm.slots) (d : decode cc pc = .ok (.invokespecial index, 3)) (e9 : As.reverse ++ vA (some b) :: st = st9) (ec : cs + rm2.cells = cs') (es : sl + rm2.slots = sl') (k9 : Gd D A0 ev Q X' cs' sl' (pc + 3) L st) : Gd D A0 ev Q X cs sl pc L st9 := by
  subst e9; subst ec; subst es
  exact g_callIN B hc hl hi hyn hM hn hw hr hf d k9
end HC
/-! THE REFERENCE's state: scalars by field, arrays by rank; its memory lies at m, m + 1 .. -/
abbrev SM : Type := (Nat → Int32) × (Nat → Nat → Int32) × (Nat → Nat → Int64)
def sc (S : SM) : Nat → Int32 := S.1
def ar (S : SM) : Nat → Nat → Int32 := S.2.1
def al (S : SM) : Nat → Nat → Int64 := S.2.2
def uc (S : SM) (k : Nat) (v : Int32) : SM := (fun j => if j = k then v else sc S j, ar S, al S)
def ua (S : SM) (r i : Nat) (v : Int32) : SM := (sc S, up2 (ar S) r i v, al S)
def ul (S : SM) (r i : Nat) (v : Int64) : SM := (sc S, ar S, up2 (al S) r i v)
def akind : Nat → Nat × Nat := fun r => match r with
  | 0 => (20, 30)
  | 1 => (20, 30)
  | 2 => (20, 30)
  | 3 => (21, 30)
  | 4 => (20, 30)
  | 5 => (20, 30)
  | 6 => (20, 900)
  | 7 => (20, 900)
  | 8 => (20, 900)
  | 9 => (21, 900)
  | 10 => (20, 30)
  | 11 => (20, 30)
  | 12 => (20, 30)
  | 13 => (20, 480)
  | 14 => (20, 480)
  | 15 => (20, 4)
  | 16 => (20, 300)
  | 17 => (20, 300)
  | 18 => (20, 601)
  | 19 => (20, 60)
  | 20 => (20, 4)
  | 21 => (20, 4)
  | 22 => (20, 961)
  | 23 => (20, 6)
  | 24 => (20, 6)
  | 25 => (20, 6)
  | 26 => (20, 24)
  | 27 => (20, 24)
  | 28 => (21, 24)
  | 29 => (22, 40)
  | 30 => (20, 24)
  | _ => (0, 0)
def rkOf : Nat → Nat := fun k => match k with
  | 4 => 0
  | 5 => 1
  | 6 => 2
  | 7 => 3
  | 9 => 4
  | 10 => 5
  | 11 => 6
  | 12 => 7
  | 13 => 8
  | 14 => 9
  | 15 => 10
  | 16 => 11
  | 17 => 12
  | 18 => 13
  | 19 => 14
  | 20 => 15
  | 30 => 16
  | 31 => 17
  | 32 => 18
  | 33 => 19
  | 34 => 20
  | 35 => 21
  | 36 => 22
  | 38 => 23
  | 39 => 24
  | 40 => 25
  | 42 => 26
  | 43 => 27
  | 44 => 28
  | 47 => 29
  | 48 => 30
  | _ => 0
def xS (m : Nat) (S : SM) (z : Nat) : Mem := (fun a => if a = m then some (12, 0) else if m < a ∧ a ≤ m + 31 then some (akind (a - m - 1)) else none, fun f a => if a = m ∧ 1200 ≤ f then sc S (f - 1200) else 0, fun f a => if a = m ∧ 1200 ≤ f then some (m + 1 + rkOf (f - 1200)) else none, fun a i => if m < a then ar S (a - m - 1) i else 0, fun a i => if m < a then al S (a - m - 1) i else 0, fun _ _ => none, z)
def inS (t r : Nat) (i : Int32) : Bool := decide (r < 31) && ((akind r).1 == 20 + t) && !(decide (i < 0)) && decide (i.toNatClampNeg < (akind r).2)
theorem hkS {m z : Nat} {S : SM} : mK (xS m S z) m = some (12, 0) := by simp [xS, mK]
theorem inS_s {m z : Nat} {S : SM} {t r : Nat} {i : Int32} (h : inS t r i = true) : ∃ n, mK (xS m S z) (m + 1 + r) = some (20 + t, n) ∧ vp_in i n := by
  unfold inS at h
  simp only [Bool.and_eq_true, beq_iff_eq, Bool.not_eq_true', decide_eq_false_iff_not, decide_eq_true_eq] at h
  obtain ⟨⟨⟨h0, h1⟩, h2⟩, h3⟩ := h
  refine ⟨(akind r).2, ?_, fun q => q.elim h2 (fun q => by omega)⟩
  show (if m + 1 + r = m then _ else if m < m + 1 + r ∧ m + 1 + r ≤ m + 31 then some (akind (m + 1 + r - m - 1)) else none) = _
  rw [if_neg (by omega), if_pos ⟨by omega, by omega⟩, show m + 1 + r - m - 1 = r by omega, ← h1]
theorem S_mI {m z k : Nat} {S : SM} : mI (xS m S z) (100 * 12 + k) m = sc S k := by
  show (if m = m ∧ 1200 ≤ 1200 + k then sc S (1200 + k - 1200) else 0) = _
  rw [if_pos ⟨rfl, by omega⟩, show 1200 + k - 1200 = k by omega]
theorem S_mR {m z k : Nat} {S : SM} : mR (xS m S z) (100 * 12 + k) m = some (m + 1 + rkOf k) := by
  show (if m = m ∧ 1200 ≤ 1200 + k then some (m + 1 + rkOf (1200 + k - 1200)) else none) = _
  rw [if_pos ⟨rfl, by omega⟩, show 1200 + k - 1200 = k by omega]
theorem S_aI {m z r : Nat} {S : SM} : aI (xS m S z) (m + 1 + r) = ar S r := by
  funext i
  show (if m < m + 1 + r then ar S (m + 1 + r - m - 1) i else 0) = _
  rw [if_pos (by omega), show m + 1 + r - m - 1 = r by omega]
theorem S_aJ {m z r : Nat} {S : SM} : aJ (xS m S z) (m + 1 + r) = al S r := by
  funext i
  show (if m < m + 1 + r then al S (m + 1 + r - m - 1) i else 0) = _
  rw [if_pos (by omega), show m + 1 + r - m - 1 = r by omega]
theorem S_wI {m z k : Nat} {S : SM} {v : Int32} : wI (xS m S z) (100 * 12 + k) m v = xS m (uc S k v) z := by
  have e : up2 (mI (xS m S z)) (100 * 12 + k) m v = mI (xS m (uc S k v) z) := by
    funext f a
    simp only [up2, mI, xS, uc, sc]
    by_cases ha : a = m ∧ 1200 ≤ f
    · rw [if_pos ha, if_pos ha]
      by_cases hf : f - 1200 = k
      · rw [if_pos hf, if_pos ⟨by omega, ha.1⟩]
      · rw [if_neg hf, if_neg (fun q => hf (by omega))]
    · rw [if_neg ha, if_neg ha, if_neg (fun q => ha ⟨q.2, by omega⟩)]
  unfold wI
  rw [e]
  rfl
theorem S_sI {m z r i : Nat} {S : SM} {v : Int32} : sI (xS m S z) (m + 1 + r) i v = xS m (ua S r i v) z := by
  have e : up2 (aI (xS m S z)) (m + 1 + r) i v = aI (xS m (ua S r i v) z) := by
    funext a j
    show (if a = m + 1 + r ∧ j = i then v else if m < a then ar S (a - m - 1) j else 0) = if m < a then (if a - m - 1 = r ∧ j = i then v else ar S (a - m - 1) j) else 0
    by_cases ha : m < a
    · rw [if_pos ha, if_pos ha]
      by_cases hf : a - m - 1 = r ∧ j = i
      · rw [if_pos hf, if_pos ⟨by omega, hf.2⟩]
      · rw [if_neg hf, if_neg (fun q => hf ⟨by omega, q.2⟩)]
    · rw [if_neg ha, if_neg ha, if_neg (fun q => ha (by omega))]
  unfold sI
  rw [e]
  rfl
theorem S_sJ {m z r i : Nat} {S : SM} {v : Int64} : sJ (xS m S z) (m + 1 + r) i v = xS m (ul S r i v) z := by
  have e : up2 (aJ (xS m S z)) (m + 1 + r) i v = aJ (xS m (ul S r i v) z) := by
    funext a j
    show (if a = m + 1 + r ∧ j = i then v else if m < a then al S (a - m - 1) j else 0) = if m < a then (if a - m - 1 = r ∧ j = i then v else al S (a - m - 1) j) else 0
    by_cases ha : m < a
    · rw [if_pos ha, if_pos ha]
      by_cases hf : a - m - 1 = r ∧ j = i
      · rw [if_pos hf, if_pos ⟨by omega, hf.2⟩]
      · rw [if_neg hf, if_neg (fun q => hf ⟨by omega, q.2⟩)]
    · rw [if_neg ha, if_neg ha, if_neg (fun q => ha (by omega))]
  unfold sJ
  rw [e]
  rfl
section GS
variable {D : DD} {A0 : Nat → Prop} {ev : EV} {Q : State → Prop} {S : SM} {m z : Nat} {cs sl pc : Nat} {L : List (Nat × TV)} {st : List TV} {own nm : String} {cc : ByteArray} {nL : Nat} {ret : Option FieldType} {rm : Room}
theorem gs_get (k : Nat) {index : Nat} (B : Amb D A0 ev own nm cc nL ret rm) (hf : k < fN 12) (hr : fR 12 k = false) (lk : Cond.fieldLink own index (clT 12 k).1 (clT 12 k).2.1 (clT 12 k).2.2.1 ∈ gd) (d : decode cc pc = .ok (.getfield index, 3)) (k9 : Gd D A0 ev Q (xS m S z) cs sl (pc + 3) L (vI (sc S k) :: st)) : Gd D A0 ev Q (xS m S z) cs sl pc L (vA (some m) :: st) :=
  g_getI 12 k B hkS (by decide) hf hr lk d (by rw [S_mI]; exact k9)
theorem gs_arr (k r : Nat) {index : Nat} (B : Amb D A0 ev own nm cc nL ret rm) (hf : k < fN 12) (hr : fR 12 k = true ∧ rkOf k = r) (lk : Cond.fieldLink own index (clT 12 k).1 (clT 12 k).2.1 (clT 12 k).2.2.1 ∈ gd) (d : decode cc pc = .ok (.getfield index, 3)) (k9 : Gd D A0 ev Q (xS m S z) cs sl (pc + 3) L (vA (some (m + 1 + r)) :: st)) : Gd D A0 ev Q (xS m S z) cs sl pc L (vA (some m) :: st) :=
  g_getR 12 k B hkS (by decide) hf hr.1 lk d (by rw [S_mR, hr.2]; exact k9)
theorem gs_put (k : Nat) {index : Nat} {v : Int32} (B : Amb D A0 ev own nm cc nL ret rm) (hf : k < fN 12) (hy : tyOf 12 k = .int) (hfin : (clT 12 k).2.2.2 = false) (lk : Cond.fieldLink own index (clT 12 k).1 (clT 12 k).2.1 (clT 12 k).2.2.1 ∈ gd) (d : decode cc pc = .ok (.putfield index, 3)) (k9 : Gd D A0 ev Q (xS m (uc S k v) z) cs sl (pc + 3) L st) : Gd D A0 ev Q (xS m S z) cs sl pc L (vI v :: vA (some m) :: st) :=
  g_putI 12 k B hkS (by decide) hf hy hfin lk d (by rw [S_wI]; exact k9)
theorem gs_putZ (k : Nat) {index : Nat} {v : Int32} (B : Amb D A0 ev own nm cc nL ret rm) (hf : k < fN 12) (hy : tyOf 12 k = .boolean) (hfin : (clT 12 k).2.2.2 = false) (hv : v = 0 ∨ v = 1) (lk : Cond.fieldLink own index (clT 12 k).1 (clT 12 k).2.1 (clT 12 k).2.2.1 ∈ gd) (d : decode cc pc = .ok (.putfield index, 3)) (k9 : Gd D A0 ev Q (xS m (uc S k v) z) cs sl (pc + 3) L st) : Gd D A0 ev Q (xS m S z) cs sl pc L (vI v :: vA (some m) :: st) :=
  g_putZ 12 k B hkS (by decide) hf hy hv hfin lk d (by rw [S_wI]; exact k9)
theorem gs_iald {r : Nat} {i : Int32} (B : Amb D A0 ev own nm cc nL ret rm) (h : inS 0 r i = true) (d : decode cc pc = .ok (.iaload, 1)) (k9 : Gd D A0 ev Q (xS m S z) cs sl (pc + 1) L (vI (ar S r i.toNatClampNeg) :: st)) : Gd D A0 ev Q (xS m S z) cs sl pc L (vI i :: vA (some (m + 1 + r)) :: st) := by
  obtain ⟨n, h1, h2⟩ := inS_s (m := m) (z := z) (S := S) h
  exact g_iald B h1 h2 d (by rw [S_aI]; exact k9)
theorem gs_zald {r : Nat} {i : Int32} (B : Amb D A0 ev own nm cc nL ret rm) (h : inS 1 r i = true) (d : decode cc pc = .ok (.baload, 1)) (k9 : Gd D A0 ev Q (xS m S z) cs sl (pc + 1) L (vI (ar S r i.toNatClampNeg) :: st)) : Gd D A0 ev Q (xS m S z) cs sl pc L (vI i :: vA (some (m + 1 + r)) :: st) := by
  obtain ⟨n, h1, h2⟩ := inS_s (m := m) (z := z) (S := S) h
  exact g_zald B h1 h2 d (by rw [S_aI]; exact k9)
theorem gs_lald {r : Nat} {i : Int32} (B : Amb D A0 ev own nm cc nL ret rm) (h : inS 2 r i = true) (d : decode cc pc = .ok (.laload, 1)) (k9 : Gd D A0 ev Q (xS m S z) cs sl (pc + 1) L (vJ (al S r i.toNatClampNeg) :: st)) : Gd D A0 ev Q (xS m S z) cs sl pc L (vI i :: vA (some (m + 1 + r)) :: st) := by
  obtain ⟨n, h1, h2⟩ := inS_s (m := m) (z := z) (S := S) h
  exact g_lald B h1 h2 d (by rw [S_aJ]; exact k9)
theorem gs_iast {r : Nat} {i x : Int32} (B : Amb D A0 ev own nm cc nL ret rm) (h : inS 0 r i = true) (d : decode cc pc = .ok (.iastore, 1)) (k9 : Gd D A0 ev Q (xS m (ua S r i.toNatClampNeg x) z) cs sl (pc + 1) L st) : Gd D A0 ev Q (xS m S z) cs sl pc L (vI x :: vI i :: vA (some (m + 1 + r)) :: st) := by
  obtain ⟨n, h1, h2⟩ := inS_s (m := m) (z := z) (S := S) h
  exact g_iast B h1 h2 d (by rw [S_sI]; exact k9)
theorem gs_zast {r : Nat} {i x : Int32} (B : Amb D A0 ev own nm cc nL ret rm) (h : inS 1 r i = true) (hx : x = 0 ∨ x = 1) (d : decode cc pc = .ok (.bastore, 1)) (k9 : Gd D A0 ev Q (xS m (ua S r i.toNatClampNeg x) z) cs sl (pc + 1) L st) : Gd D A0 ev Q (xS m S z) cs sl pc L (vI x :: vI i :: vA (some (m + 1 + r)) :: st) := by
  obtain ⟨n, h1, h2⟩ := inS_s (m := m) (z := z) (S := S) h
  exact g_zast B h1 h2 hx d (by rw [S_sI]; exact k9)
theorem gs_last {r : Nat} {i : Int32} {x : Int64} (B : Amb D A0 ev own nm cc nL ret rm) (h : inS 2 r i = true) (d : decode cc pc = .ok (.lastore, 1)) (k9 : Gd D A0 ev Q (xS m (ul S r i.toNatClampNeg x) z) cs sl (pc + 1) L st) : Gd D A0 ev Q (xS m S z) cs sl pc L (vJ x :: vI i :: vA (some (m + 1 + r)) :: st) := by
  obtain ⟨n, h1, h2⟩ := inS_s (m := m) (z := z) (S := S) h
  exact g_last B h1 h2 d (by rw [S_sJ]; exact k9)
end GS
