/-! CONTRACTS over the typed memory: entry, ends, calls -/
def cPc (D : DD) (av : List TV) (X : Mem) : Array Value → State → Prop := fun v U => v = (tS av).toArray ∧ RepM D X U.heap ∧ AK D U ∧ zU (foot X) U U.heap
def cPo (D : DD) (X X' : Mem) (st t : State) : Prop := RepM D X' t.heap ∧ (∀ a, mK X' a ≠ none → foot X a) ∧ va_F (foot X) st t
def cQc (D : DD) (X : Mem) (o : String ⊕ Option TV) (X' : Mem) : Array Value → State → Outcome → State → Prop := fun _ st oc t => ∃ v : Option TV, o = .inr v ∧ oc = .returned (v.map tv) ∧ cPo D X X' st t
def cXC (D : DD) (X : Mem) (o : String ⊕ Option TV) : String → State → State → Prop := fun E st t => o = .inl E ∧ (∃ z, RepM D (zM X z) t.heap) ∧ va_F (foot X) st t
def Ctr (D : DD) (l : Launch) (y : MethodName) (cc : ByteArray) (nL : Nat) (ret : Option FieldType) (rm : Room) (av : List TV) (X : Mem) (o : String ⊕ Option TV) (X' : Mem) : Prop :=
  vx_Met l y [Cond.code y cc nL ret] rm (cPc D av X) (cQc D X o X') (cXC D X o) rm.cells rm.slots (foot X)
def QF (D : DD) (ev : EV) (X : Mem) (o : String ⊕ Option TV) (X' : Mem) (rm : Room) : State → Prop := match ev with
  | (_, _, _, _, s, _, args, below, _, _) => vx_MQ below (cQc D X o X') (cXC D X o) args s rm.cells rm.slots (foot X)
def Tb0 (ev : EV) : Prop := match ev with
  | (_, _, _, _, _, _, _, _, _, c) => ∀ x ∈ c.exceptionTable.toList, False
def EvL (ev : EV) (l : Launch) : Prop := match ev with
  | (_, l', _, _, _, _, _, _, _, _) => l' = l
def tA : Nat → List TV → List (Nat × TV)
  | _, [] => []
  | i, v :: vs => (i, v) :: tA (if tJ v then i + 2 else i + 1) vs
theorem tA_args (av : List TV) : ∀ i, tL (tA i av) = lv_args i (tS av) := by
  induction av with
  | nil => intro i; rfl
  | cons v vs ih =>
    intro i
    show (i, tv v) :: tL (tA (if tJ v then i + 2 else i + 1) vs) = (i, tv v) :: lv_args (if (tv v).category = 2 then i + 2 else i + 1) (tS vs)
    rw [ih, tv_cat]
    cases tJ v <;> rfl
theorem tW_sl (av : List TV) : (lg_sl (tS av)).length = tW av := by
  induction av with
  | nil => rfl
  | cons v vs ih =>
    have e : lg_sl (tS (v :: vs)) = (if (tv v).category = 2 then [.val (tv v), .second] else [.val (tv v)]) ++ lg_sl (tS vs) := rfl
    rw [e, List.length_append, ih, tv_cat]
    cases h : tJ v <;> simp [tW, h]
theorem cPc_blind {D : DD} {av : List TV} {X : Mem} : FrameBlind (cPc D av X) := by
  intro a U g mk ⟨h1, h2, h3, h4⟩
  exact ⟨h1, h2, AK.warm (State.WarmedH.refl U) h3, h4⟩
theorem vx_ofWF {l : Launch} {y : MethodName} {ws ws' : List Cond} {rm : Room} {Pc : Array Value → State → Prop} {Qc : Array Value → State → Outcome → State → Prop} {XC : String → State → State → Prop} {mc ms : Nat} {free : Addr → Prop} {cc : ByteArray} {maxL : Nat} {ret : Option FieldType}
    (hy : plainFor y = true) (hw : ws = Cond.code y cc maxL ret :: ws')
    (body : ∀ p e s m args below meth c s₁, BodyLoose p l y (headSpec ws rm) cc maxL ret e s m args below meth c s₁ → c.maxLocals = maxL → (∀ x ∈ c.exceptionTable.toList, False) → Pc args s →
      W p l e (headSpec ws rm).room s m args below meth c s.heap [] 0 0 (vx_MQ below Qc XC args s mc ms free) (entryFrame m args maxL)) : vx_Met l y ws rm Pc Qc XC mc ms free := by
  refine MetFree.of_bodySF (code := cc) (maxLocals := maxL) (ret := ret) hy ?_ ?_
  · intro args s m h hn
    obtain ⟨meth, c, h1, h2, h3, h4, h5, h6, -, -⟩ := Cond.code_spec hn (atoms_spec (ws := ws) h _ (by rw [hw]; exact List.mem_cons_self))
    exact ⟨meth, c, h1, h2, h3, h4, h5, h6⟩
  · intro p e s m args below meth c s₁ B hml hP _
    have hh0 : s₁.heap = s.heap := by rw [B.state]; rfl
    have ht : ∀ x ∈ c.exceptionTable.toList, False := by
      obtain ⟨meth9, c9, h1, h2, -, -, -, -, h7, -⟩ := Cond.code_spec B.named (atoms_spec (ws := ws) B.pre _ (by rw [hw]; exact List.mem_cons_self))
      cases Option.some.inj (h1.symm.trans B.method)
      cases Option.some.inj (h2.symm.trans (Stand.of_body B).code)
      intro x hx
      rw [Array.isEmpty_iff.mp h7] at hx
      cases hx
    obtain ⟨t, a1, o, b1, b2, b3⟩ := body p e s m args below meth c s₁ B hml ht hP s₁ hh0 (Stand.of_body B)
    exact ⟨t, o, a1, b1, b2, b3⟩
theorem ctr_of {D : DD} {l : Launch} {y : MethodName} {cc : ByteArray} {nL : Nat} {ret : Option FieldType} {rm : Room} {av : List TV} {X : Mem} {o : String ⊕ Option TV} {X' : Mem} (hst : l.stackTraces = false) (hy : plainFor y = true) (hw : tW av ≤ nL)
    (body : ∀ ev : EV, EvL ev l → Tb0 ev → Amb D (foot X) ev y.cls y.name cc nL ret rm → Gd D (foot X) ev (QF D ev X o X' rm) X 0 0 0 (tA 0 av) []) : Ctr D l y cc nL ret rm av X o X' := by
  refine vx_ofWF (cc := cc) (maxL := nL) (ret := ret) hy rfl ?_
  intro p e s m args below meth c s₁ B hml ht hP
  obtain ⟨rfl, hR, hAK, hz⟩ := hP
  have hown : s.vm.findClass y.cls = some m.cls := findClass_of_methodNamed B.named
  have hA0 : ∀ q : Nat, s.heap.size ≤ q → foot X q := fun q h => Or.inr (by rw [hR.2]; exact h)
  have hS : va_S (foot X) s.heap s.heap [] := va_S.rf
  have hl := lv_entry (tS av) (n := nL) (by rw [tW_sl]; exact hw)
  rw [← tA_args] at hl
  have k := body (p, l, e, rm, s, m, (tS av).toArray, below, meth, c) rfl ht ⟨B.exec, B.bytes, hml, hown, hAK, B.notSynchronized, B.returns, rfl, hA0, hst, hz, (name_of_methodNamed B.named B.method).1⟩
  rw [lg_entry_eq]
  exact k s.heap [] _ hR (fun a h => Or.inl h) hS (by rw [hml]; exact hl)
section GE
variable {D : DD} {ev : EV} {X X0 : Mem} {cs sl pc : Nat} {L : List (Nat × TV)} {st : List TV} {own nm : String} {cc : ByteArray} {nL : Nat} {ret : Option FieldType} {rm : Room}
theorem cPo_end {H : Heap} {s t : State} {locs : List Loc} (ht : t.heap = H) (hR : RepM D X H) (hA : ∀ a, mK X a ≠ none → foot X0 a) (hS : va_S (foot X0) s.heap H locs) : cPo D X0 X s t := ⟨by rw [ht]; exact hR, hA, hS.F ht⟩
theorem g_ret_I {v : Int32} (B : Amb D (foot X0) ev own nm cc nL ret rm) (hret : ret = some .int) (hc : cs ≤ rm.cells) (hs : sl ≤ rm.slots) (d : decode cc pc = .ok (.ireturn, 1)) : Gd D (foot X0) ev (QF D ev X0 (.inr (some (vI v))) X rm) X cs sl pc L [vI v] := by
  obtain ⟨p, l, e9, R, s, m, args, below, meth, c9⟩ := ev
  intro H locs ls hR hA hS hl
  refine W.widen hc hs (vx_ret ?_)
  exact W.iret B.1 B.2.1 (B.2.2.2.2.2.2.1.trans hret) (fun t ht hW => ⟨some (vI v), rfl, rfl, cPo_end ht hR hA hS⟩) hS.2.2 d B.2.2.2.2.2.1
theorem g_ret_Z {v : Int32} (B : Amb D (foot X0) ev own nm cc nL ret rm) (hret : ret = some .boolean) (hv : v = 0 ∨ v = 1) (hc : cs ≤ rm.cells) (hs : sl ≤ rm.slots) (d : decode cc pc = .ok (.ireturn, 1)) : Gd D (foot X0) ev (QF D ev X0 (.inr (some (vI v))) X rm) X cs sl pc L [vI v] := by
  obtain ⟨p, l, e9, R, s, m, args, below, meth, c9⟩ := ev
  intro H locs ls hR hA hS hl
  refine W.widen hc hs (vx_ret ?_)
  exact W.zret B.1 B.2.1 (B.2.2.2.2.2.2.1.trans hret) (nar_Z hv).1 (fun t ht hW => ⟨some (vI v), rfl, rfl, cPo_end ht hR hA hS⟩) hS.2.2 d B.2.2.2.2.2.1
theorem g_ret_J {v : Int64} (B : Amb D (foot X0) ev own nm cc nL ret rm) (hret : ret = some .long) (hc : cs ≤ rm.cells) (hs : sl ≤ rm.slots) (d : decode cc pc = .ok (.lreturn, 1)) : Gd D (foot X0) ev (QF D ev X0 (.inr (some (vJ v))) X rm) X cs sl pc L [vJ v] := by
  obtain ⟨p, l, e9, R, s, m, args, below, meth, c9⟩ := ev
  intro H locs ls hR hA hS hl
  refine W.widen hc hs (vx_ret ?_)
  exact W.lret B.1 B.2.1 (B.2.2.2.2.2.2.1.trans hret) (fun t ht hW => ⟨some (vJ v), rfl, rfl, cPo_end ht hR hA hS⟩) hS.2.2 d B.2.2.2.2.2.1
theorem g_ret_A {v : Option Nat} {C : String} (B : Amb D (foot X0) ev own nm cc nL ret rm) (hret : ret = some (.object C)) (hc : cs ≤ rm.cells) (hs : sl ≤ rm.slots) (d : decode cc pc = .ok (.areturn, 1)) : Gd D (foot X0) ev (QF D ev X0 (.inr (some (vA v))) X rm) X cs sl pc L [vA v] := by
  obtain ⟨p, l, e9, R, s, m, args, below, meth, c9⟩ := ev
  intro H locs ls hR hA hS hl
  refine W.widen hc hs (vx_ret ?_)
  exact W.aret B.1 B.2.1 (B.2.2.2.2.2.2.1.trans hret) (Or.inl ⟨_, rfl⟩) (by cases v <;> first | exact Or.inl rfl | exact Or.inr ⟨_, rfl⟩) (fun t ht hW => ⟨some (vA v), rfl, rfl, cPo_end ht hR hA hS⟩) hS.2.2 d B.2.2.2.2.2.1
theorem g_ret_V (B : Amb D (foot X0) ev own nm cc nL ret rm) (hret : ret = none) (hc : cs ≤ rm.cells) (hs : sl ≤ rm.slots) (d : decode cc pc = .ok (.return_, 1)) : Gd D (foot X0) ev (QF D ev X0 (.inr none) X rm) X cs sl pc L [] := by
  obtain ⟨p, l, e9, R, s, m, args, below, meth, c9⟩ := ev
  intro H locs ls hR hA hS hl
  refine W.widen hc hs (vx_ret ?_)
  exact W.vret B.1 B.2.1 (B.2.2.2.2.2.2.1.trans hret) (fun t ht hW => ⟨none, rfl, rfl, cPo_end ht hR hA hS⟩) hS.2.2 d B.2.2.2.2.2.1
end GE
/-- what a call needs of its callee, whoever calls -/
def CalOK (y : MethodName) (cc : ByteArray) (nL : Nat) (ret : Option FieldType) (n : Nat) : Prop :=
  Cond.code y cc nL ret ∈ gd ∧ Cond.initialized y.cls ∈ gd ∧ (y.cls ≠ "java/lang/invoke/MethodHandle" ∧ y.cls ≠ "java/lang/invoke/VarHandle") ∧ (parseMethodDescriptor y.desc).map (fun d => d.parameters.length) = some n
theorem Ctr.met {D : DD} {l : Launch} {y : MethodName} {cc : ByteArray} {nL : Nat} {ret : Option FieldType} {rm : Room} {av : List TV} {X : Mem} {v : Option TV} {X' : Mem} (h : Ctr D l y cc nL ret rm av X (.inr v) X') : Met l y [Cond.code y cc nL ret] rm (cPc D av X) (cQc D X (.inr v) X') rm.cells rm.slots (foot X) := by
  intro p e ha hc hk s m args below hf happ hP hK
  obtain ⟨n, o, h1, h2, h3, h4⟩ := h p e ha hc hk s m args below hf happ hP hK
  refine ⟨n, o, h1, h2, h3, ?_⟩
  rcases h4 with h4 | ⟨q, -, E, ce, L, ⟨hx, -⟩, -⟩
  · exact h4
  · cases hx
section GC
variable {p : Program} {l : Launch} {e : Env} {R : Room} {s : State} {m : MethodId} {args : Array Value} {below : List Frame} {meth : Method} {c : Code} {H : Heap} {locs : List Loc}
variable {D : DD} {A0 : Nat → Prop} {ev : EV} {Q : State → Prop} {X X' : Mem} {cs sl pc : Nat} {L : List (Nat × TV)} {st : List TV} {own nm : String} {cc : ByteArray} {nL : Nat} {ret : Option FieldType} {rm : Room}
variable {y : MethodName} {cc2 : ByteArray} {nL2 n index : Nat} {ret2 : Option FieldType} {rm2 : Room} {As : List TV} {v : Option TV}
theorem callB (hAK : AK D s) (hc : CalOK y cc2 nL2 ret2 n) (hl : Cond.methodLink own index y ∈ gd) (hr : rm2.frames + 1 ≤ R.frames ∧ 8 + (nL2 + 11) + rm2.locals ≤ R.locals) : CallB R s args own index y cc2 nL2 ret2 [Cond.code y cc2 nL2 ret2] rm2 rm2.cells rm2.slots n := by
  refine ⟨rfl, rfl, hr.1, hr.2, fun w hw a' U hW => ?_, List.mem_cons_self, hAK.w hc.1, hAK.w hc.2.1, hc.2.2.1, fun sig h => ?_, hAK.w hl⟩
  · rw [List.mem_singleton.mp hw]
    exact word_at hW (good_of_word (List.mem_filter.mp hc.1).2) (hAK.w (a := args) hc.1)
  · have h2 := hc.2.2.2
    rw [h] at h2
    exact (Option.some.inj h2).symm
theorem callP (hA0 : ∀ q : Nat, s.heap.size ≤ q → A0 q) (hAK : AK D s) (hz : zU A0 s s.heap) (hR : RepM D X H) (hA : ∀ a, mK X a ≠ none → A0 a) (hS : va_S A0 s.heap H locs) (av : List TV) : ∀ U : State, U.heap = H → s.WarmedH U.vm → cPc D av X (tS av).toArray U := by
  intro U hU hW
  have hAB : ∀ q, foot X q → A0 q := fun q h => h.elim (hA q) (fun h => hA0 q (Nat.le_trans hS.1 (by rw [← hR.2]; exact h)))
  refine ⟨rfl, by rw [hU]; exact hR, hAK.warm hW, ?_, ?_⟩
  · rw [hU]
    exact ((hz.1.kept hS.2.1).narrow hAB).moved hW.alike
  · rw [hU]
    exact ((hz.2.kept hS.2.1).narrow hAB).moved hW.alike
/-- behind a call that has come back -/
theorem callK {mc ms : Nat} {g : JFrame} {ls : Array Slot} {st9 rest : List Value} (hA0 : ∀ q : Nat, s.heap.size ≤ q → A0 q) (hz : mZ X = H.size) (hA : ∀ a, mK X a ≠ none → A0 a) (hS : va_S A0 s.heap H locs) {av : Array Value}
    (hr : va_Run p l e R s m args below meth c H locs cs sl mc ms (F0 m pc ls st9) rest (cQc D X (.inr v) X' av) (foot X))
    (kk : ∀ (H1 : Heap) (locs1 : List Loc), RepM D X' H1 → (∀ a, mK X' a ≠ none → A0 a) → va_S A0 s.heap H1 locs1 → W p l e R s m args below meth c H1 locs1 (cs + mc) (sl + ms) Q (F0 m (pc + 3) ls ((v.map tv).toList ++ rest))) : W p l e R s m args below meth c H locs cs sl Q (F0 m pc ls st9) := by
  intro T hT X9
  have hAB : ∀ q, foot X q → A0 q := fun q h => h.elim (hA q) (fun h => hA0 q (Nat.le_trans hS.1 (by rw [← hz]; exact h)))
  obtain ⟨v9, st₀, t, T', L9, h0, X8, hL, e1, e2, ⟨v', hv', hv9, hp1, hp2, hp3⟩, st'⟩ := hr T hT X9
  cases hv'
  cases hv9
  obtain ⟨-, -, k3⟩ := vx_keep h0 e1 hS (fun q _ h => hAB q h) hAB hL hp3
  obtain ⟨t2, a1, b1⟩ := kk T'.heap (locs ++ L9) (by rw [e1]; exact hp1) (fun a h => hAB a (hp2 a h)) k3 T' rfl X8
  exact ⟨t2, st' t2 a1, b1⟩
theorem callX {mc ms : Nat} {g : JFrame} {ls : Array Slot} {st9 rest : List Value} (hA0 : ∀ q : Nat, s.heap.size ≤ q → A0 q) (hz : mZ X = H.size) (hA : ∀ a, mK X a ≠ none → A0 a) (hS : va_S A0 s.heap H locs) {av : Array Value}
    (hr : vx_Run p l e R s m args below meth c H locs cs sl mc ms (F0 m pc ls st9) rest (cQc D X (.inr v) X' av) (cXC D X (.inr v)) (foot X))
    (kk : ∀ (H1 : Heap) (locs1 : List Loc), RepM D X' H1 → (∀ a, mK X' a ≠ none → A0 a) → va_S A0 s.heap H1 locs1 → W p l e R s m args below meth c H1 locs1 (cs + mc) (sl + ms) Q (F0 m (pc + 3) ls ((v.map tv).toList ++ rest))) : W p l e R s m args below meth c H locs cs sl Q (F0 m pc ls st9) := by
  refine callK hA0 hz hA hS (av := av) (g := g) (v := v) ?_ kk
  intro T hT X9
  rcases hr T hT X9 with h | ⟨q, st₀, t, T', L9, E, ce, -, -, -, -, -, ⟨hx, -⟩, -⟩
  · exact h
  · cases hx
theorem tS_rev {As : List TV} {x : TV} : tS (As.reverse ++ x :: st) = (tS As).reverse ++ tv x :: tS st := by simp [tS]
theorem tS_rev' {As : List TV} : tS (As.reverse ++ st) = (tS As).reverse ++ tS st := by simp [tS]
theorem tS_out : (v.map tv).toList ++ tS st = tS (v.toList ++ st) := by cases v <;> rfl
/-- a call of a method by an object, that comes back -/
theorem g_callV {b ci n9 : Nat} (B : Amb D A0 ev own nm cc nL ret rm) (hc : CalOK y cc2 nL2 ret2 n) (hl : Cond.methodLink own index y ∈ gd) (hi : Cond.instanceMethod y ∈ gd) (hse : Cond.selects y.cls y y ∈ gd) (hk : mK X b = some (ci, n9)) (hci : ci < 12) (hcl : clC ci = y.cls)
    (hM : ∀ l, l.stackTraces = false → Ctr D l y cc2 nL2 ret2 rm2 (vA (some b) :: As) X (.inr v) X') (hn : As.length = n) (hw : tW st ≤ 8) (hr : rm2.frames + 1 ≤ rm.frames ∧ 8 + (nL2 + 11) + rm2.locals ≤ rm.locals) (hf : cs + rm2.cells ≤ rm.cells ∧ sl + rm2.slots ≤ rm.slots) (d : decode cc pc = .ok (.invokevirtual index, 3))
    (k9 : Gd D A0 ev Q X' (cs + rm2.cells) (sl + rm2.slots) (pc + 3) L (v.toList ++ st)) : Gd D A0 ev Q X cs sl pc L (As.reverse ++ vA (some b) :: st) := by
  obtain ⟨p, l, e9, R, s, m, args, below, meth, c9⟩ := ev
  intro H locs ls hR hA hS hl9
  have hRR : R = rm := B.2.2.2.2.2.2.2.1
  subst hRR
  obtain ⟨o1, -⟩ := clsOK ci hci
  rw [tS_rev]
  refine callX (g := F0 m pc ls []) (Q := Q) B.2.2.2.2.2.2.2.2.1 hR.2 hA hS (rest := tS st) (vx_runV (As := tS As) (rest := tS st) (C := y.cls) ⟨B.1, B.2.1, B.2.2.1, B.2.2.2.1, fun w hw => B.2.2.2.2.1.w hw⟩ (hM l B.2.2.2.2.2.2.2.2.2.1) ⟨callB B.2.2.2.2.1 hc hl hr, B.2.2.2.2.1.w hi, B.2.2.2.2.1.w hse⟩ ⟨cPc_blind, ?_, callP B.2.2.2.2.2.2.2.2.1 B.2.2.2.2.1 B.2.2.2.2.2.2.2.2.2.2.1 hR hA hS (vA (some b) :: As)⟩ rfl (by simpa [tS] using hn) (hl9.1.trans B.2.2.1) rfl (lv_room (m := m) (pc := pc) (ls := ls) (rest := []) (by rw [tW_sum]; exact hw)) d hf) (fun H1 locs1 h1 h2 h3 => ?_)
  · have h9 := va_recv (D := (D.1, D.2.1)) (cl := vwCl) (ws := [(b, .inr (ci, fsOf X ci b))]) B.2.2.2.2.1.1 (P1 (hR.objAt hk hci)) (ci := ci) (q0 := 0) o1 rfl
    obtain ⟨cell, g1, g2, g3⟩ := h9
    exact ⟨cell, g1, g2, by rw [← hcl]; exact g3⟩
  · rw [tS_out]
    exact k9 H1 locs1 ls h1 h2 h3 hl9
theorem g_callS (B : Amb D A0 ev own nm cc nL ret rm) (hc : CalOK y cc2 nL2 ret2 n) (hl : Cond.methodLink own index y ∈ gd) (hi : Cond.static y ∈ gd)
    (hM : ∀ l, l.stackTraces = false → Ctr D l y cc2 nL2 ret2 rm2 As X (.inr v) X') (hn : As.length = n) (hw : tW st ≤ 8) (hr : rm2.frames + 1 ≤ rm.frames ∧ 8 + (nL2 + 11) + rm2.locals ≤ rm.locals) (hf : cs + rm2.cells ≤ rm.cells ∧ sl + rm2.slots ≤ rm.slots) (d : decode cc pc = .ok (.invokestatic index, 3))
    (k9 : Gd D A0 ev Q X' (cs + rm2.cells) (sl + rm2.slots) (pc + 3) L (v.toList ++ st)) : Gd D A0 ev Q X cs sl pc L (As.reverse ++ st) := by
  obtain ⟨p, l, e9, R, s, m, args, below, meth, c9⟩ := ev
  intro H locs ls hR hA hS hl9
  have hRR : R = rm := B.2.2.2.2.2.2.2.1
  subst hRR
  rw [tS_rev']
  refine callX (g := F0 m pc ls []) (Q := Q) B.2.2.2.2.2.2.2.2.1 hR.2 hA hS (rest := tS st) (vx_runS (As := tS As) (rest := tS st) ⟨B.1, B.2.1, B.2.2.1, B.2.2.2.1, fun w hw => B.2.2.2.2.1.w hw⟩ (hM l B.2.2.2.2.2.2.2.2.2.1) ⟨callB B.2.2.2.2.1 hc hl hr, B.2.2.2.2.1.w hi⟩ ⟨cPc_blind, callP B.2.2.2.2.2.2.2.2.1 B.2.2.2.2.1 B.2.2.2.2.2.2.2.2.2.2.1 hR hA hS As⟩ rfl (by simpa [tS] using hn) (hl9.1.trans B.2.2.1) rfl (lv_room (m := m) (pc := pc) (ls := ls) (rest := []) (by rw [tW_sum]; exact hw)) d hf) (fun H1 locs1 h1 h2 h3 => ?_)
  rw [tS_out]
  exact k9 H1 locs1 ls h1 h2 h3 hl9
theorem g_callI {b : Nat} (B : Amb D A0 ev own nm cc nL ret rm) (hc : CalOK y cc2 nL2 none n) (hl : Cond.methodLink own index y ∈ gd) (hi : Cond.instanceMethod y ∈ gd) (hyn : y.name = "<init>")
    (hM : ∀ l, l.stackTraces = false → Ctr D l y cc2 nL2 none rm2 (vA (some b) :: As) X (.inr none) X') (hn : As.length = n) (hw : tW st ≤ 8) (hr : rm2.frames + 1 ≤ rm.frames ∧ 8 + (nL2 + 11) + rm2.locals ≤ rm.locals) (hf : cs + rm2.cells ≤ rm.cells ∧ sl + rm2.slots ≤ rm.slots) (d : decode cc pc = .ok (.invokespecial index, 3))
    (k9 : Gd D A0 ev Q X' (cs + rm2.cells) (sl + rm2.slots) (pc + 3) L st) : Gd D A0 ev Q X cs sl pc L (As.reverse ++ vA (some b) :: st) := by
  obtain ⟨p, l, e9, R, s, m, args, below, meth, c9⟩ := ev
  intro H locs ls hR hA hS hl9
  have hRR : R = rm := B.2.2.2.2.2.2.2.1
  subst hRR
  rw [tS_rev]
  exact callK (g := F0 m pc ls []) (Q := Q) (v := none) B.2.2.2.2.2.2.2.2.1 hR.2 hA hS (rest := tS st) (va_runI (As := tS As) (rest := tS st) (b := b) ⟨B.1, B.2.1, B.2.2.1, B.2.2.2.1, fun w hw => B.2.2.2.2.1.w hw⟩ (hM l B.2.2.2.2.2.2.2.2.2.1).met ⟨callB B.2.2.2.2.1 hc hl hr, hyn, B.2.2.2.2.1.w hi⟩ ⟨cPc_blind, callP B.2.2.2.2.2.2.2.2.1 B.2.2.2.2.1 B.2.2.2.2.2.2.2.2.2.2.1 hR hA hS (vA (some b) :: As)⟩ rfl (by simpa [tS] using hn) (hl9.1.trans B.2.2.1) rfl (lv_room (m := m) (pc := pc) (ls := ls) (rest := []) (by rw [tW_sum]; exact hw)) d hf) (fun H1 locs1 h1 h2 h3 => k9 H1 locs1 ls h1 h2 h3 hl9)
theorem callN {host : String} (hAK : AK D s) (hc : CalOK y cc2 nL2 ret2 n) (hl : Cond.methodLinkNest own index y host ∈ nestW) (hr : rm2.frames + 1 ≤ R.frames ∧ 8 + (nL2 + 11) + rm2.locals ≤ R.locals) : va_CN R s args own index y host cc2 nL2 ret2 [Cond.code y cc2 nL2 ret2] rm2 rm2.cells rm2.slots n := by
  refine ⟨⟨rfl, rfl, hr.1, hr.2, fun w hw a' U hW => ?_, List.mem_cons_self⟩, hAK.w hc.1, hAK.w hc.2.1, hc.2.2.1, fun sig h => ?_, va_Nw.use rfl (hAK.2.2.1 _ hl)⟩
  · rw [List.mem_singleton.mp hw]
    exact word_at hW (good_of_word (List.mem_filter.mp hc.1).2) (hAK.w (a := args) hc.1)
  · have h2 := hc.2.2.2
    rw [h] at h2
    exact (Option.some.inj h2).symm
theorem g_callSN {host : String} (B : Amb D A0 ev own nm cc nL ret rm) (hc : CalOK y cc2 nL2 ret2 n) (hl : Cond.methodLinkNest own index y host ∈ nestW) (hi : Cond.static y ∈ gd)
    (hM : ∀ l, l.stackTraces = false → Ctr D l y cc2 nL2 ret2 rm2 As X (.inr v) X') (hn : As.length = n) (hw : tW st ≤ 8) (hr : rm2.frames + 1 ≤ rm.frames ∧ 8 + (nL2 + 11) + rm2.locals ≤ rm.locals) (hf : cs + rm2.cells ≤ rm.cells ∧ sl + rm2.slots ≤ rm.slots) (d : decode cc pc = .ok (.invokestatic index, 3))
    (k9 : Gd D A0 ev Q X' (cs + rm2.cells) (sl + rm2.slots) (pc + 3) L (v.toList ++ st)) : Gd D A0 ev Q X cs sl pc L (As.reverse ++ st) := by
  obtain ⟨p, l, e9, R, s, m, args, below, meth, c9⟩ := ev
  intro H locs ls hR hA hS hl9
  have hRR : R = rm := B.2.2.2.2.2.2.2.1
  subst hRR
  rw [tS_rev']
  refine callK (g := F0 m pc ls []) (Q := Q) B.2.2.2.2.2.2.2.2.1 hR.2 hA hS (rest := tS st) (va_runSN (As := tS As) (rest := tS st) ⟨B.1, B.2.1, B.2.2.1, B.2.2.2.1, fun w hw => B.2.2.2.2.1.w hw⟩ (hM l B.2.2.2.2.2.2.2.2.2.1).met ⟨callN B.2.2.2.2.1 hc hl hr, B.2.2.2.2.1.w hi, trivial⟩ ⟨cPc_blind, callP B.2.2.2.2.2.2.2.2.1 B.2.2.2.2.1 B.2.2.2.2.2.2.2.2.2.2.1 hR hA hS As⟩ rfl (by simpa [tS] using hn) (hl9.1.trans B.2.2.1) rfl (lv_room (m := m) (pc := pc) (ls := ls) (rest := []) (by rw [tW_sum]; exact hw)) d hf) (fun H1 locs1 h1 h2 h3 => ?_)
  rw [tS_out]
  exact k9 H1 locs1 ls h1 h2 h3 hl9
theorem g_callIN {b : Nat} {host : String} (B : Amb D A0 ev own nm cc nL ret rm) (hc : CalOK y cc2 nL2 none n) (hl : Cond.methodLinkNest own index y host ∈ nestW) (hi : Cond.instanceMethod y ∈ gd) (hyn : y.name = "<init>")
    (hM : ∀ l, l.stackTraces = false → Ctr D l y cc2 nL2 none rm2 (vA (some b) :: As) X (.inr none) X') (hn : As.length = n) (hw : tW st ≤ 8) (hr : rm2.frames + 1 ≤ rm.frames ∧ 8 + (nL2 + 11) + rm2.locals ≤ rm.locals) (hf : cs + rm2.cells ≤ rm.cells ∧ sl + rm2.slots ≤ rm.slots) (d : decode cc pc = .ok (.invokespecial index, 3))
    (k9 : Gd D A0 ev Q X' (cs + rm2.cells) (sl + rm2.slots) (pc + 3) L st) : Gd D A0 ev Q X cs sl pc L (As.reverse ++ vA (some b) :: st) := by
  obtain ⟨p, l, e9, R, s, m, args, below, meth, c9⟩ := ev
  intro H locs ls hR hA hS hl9
  have hRR : R = rm := B.2.2.2.2.2.2.2.1
  subst hRR
  rw [tS_rev]
  exact callK (g := F0 m pc ls []) (Q := Q) (v := none) B.2.2.2.2.2.2.2.2.1 hR.2 hA hS (rest := tS st) (va_runIN (As := tS As) (rest := tS st) (b := b) ⟨B.1, B.2.1, B.2.2.1, B.2.2.2.1, fun w hw => B.2.2.2.2.1.w hw⟩ (hM l B.2.2.2.2.2.2.2.2.2.1).met ⟨callN B.2.2.2.2.1 hc hl hr, hyn, B.2.2.2.2.1.w hi⟩ ⟨cPc_blind, callP B.2.2.2.2.2.2.2.2.1 B.2.2.2.2.1 B.2.2.2.2.2.2.2.2.2.2.1 hR hA hS (vA (some b) :: As)⟩ rfl (by simpa [tS] using hn) (hl9.1.trans B.2.2.1) rfl (lv_room (m := m) (pc := pc) (ls := ls) (rest := []) (by rw [tW_sum]; exact hw)) d hf) (fun H1 locs1 h1 h2 h3 => k9 H1 locs1 ls h1 h2 h3 hl9)
end GC
/-! a call that throws: it goes on to the caller; a throw of one's own -/
section GX
variable {D : DD} {A0 : Nat → Prop} {ev : EV} {Q : State → Prop} {X X' : Mem} {cs sl pc : Nat} {L : List (Nat × TV)} {st : List TV} {own nm : String} {cc : ByteArray} {nL : Nat} {ret : Option FieldType} {rm : Room}
variable {y : MethodName} {cc2 : ByteArray} {nL2 n index : Nat} {ret2 : Option FieldType} {rm2 : Room} {As : List TV}
/-- the frame's judgement with an exception of the class E over it -/
def Gx (D : DD) (A0 : Nat → Prop) (ev : EV) (Q : State → Prop) (X : Mem) (E : String) (cs sl pc : Nat) (L : List (Nat × TV)) (st : List TV) : Prop := match ev with
  | (p, l, e, R, s, m, args, below, meth, c) => ∀ (H : Heap) (locs : List Loc) (ls : Array Slot) (q : Nat) (ce : Cell), (∃ z, RepM D (zM X z) H) → (∀ a, mK X a ≠ none → A0 a) → va_S A0 s.heap H locs → lv_has ls c.maxLocals (tL L) → H[q]? = some ce → ce.vm = .none → s.vm.findClass E = some ce.cls → vx_W p l e R s m args below meth c H locs cs sl Q (F0 m pc ls (tS st)) q
theorem callXT {p : Program} {l : Launch} {e : Env} {R : Room} {s : State} {m : MethodId} {args : Array Value} {below : List Frame} {meth : Method} {c : Code} {H : Heap} {locs : List Loc} {mc ms : Nat} {ls : Array Slot} {st9 rest : List Value} {E : String} (hA0 : ∀ q : Nat, s.heap.size ≤ q → A0 q) (hz : mZ X = H.size) (hA : ∀ a, mK X a ≠ none → A0 a) (hS : va_S A0 s.heap H locs) {av : Array Value}
    (hr : vx_Run p l e R s m args below meth c H locs cs sl mc ms (F0 m pc ls st9) rest (cQc D X (.inl E) X' av) (cXC D X (.inl E)) (foot X))
    (kk : ∀ (H1 : Heap) (locs1 : List Loc) (q : Nat) (ce : Cell), (∃ z, RepM D (zM X z) H1) → va_S A0 s.heap H1 locs1 → H1[q]? = some ce → ce.vm = .none → s.vm.findClass E = some ce.cls → vx_W p l e R s m args below meth c H1 locs1 (cs + mc) (sl + ms) Q (F0 m pc ls rest) q) : W p l e R s m args below meth c H locs cs sl Q (F0 m pc ls st9) := by
  intro T hT X9
  have hAB : ∀ q, foot X q → A0 q := fun q h => h.elim (hA q) (fun h => hA0 q (Nat.le_trans hS.1 (by rw [← hz]; exact h)))
  rcases hr T hT X9 with ⟨v9, st₀, t, T', L9, h0, X8, hL, e1, e2, ⟨v', hv', -⟩, -⟩ | ⟨q, st₀, t, T', L9, E', ce, h0, X8, hL, e1, e2, ⟨hx, ⟨z, hz9⟩, hp3⟩, hce, hcv, hcl, st'⟩
  · cases hv'
  · cases hx
    obtain ⟨-, -, k3⟩ := vx_keep h0 e1 hS (fun q _ h => hAB q h) hAB hL hp3
    obtain ⟨t2, a1, b1⟩ := kk T'.heap (locs ++ L9) q ce ⟨z, by rw [e1]; exact hz9⟩ k3 (by rw [e1]; exact hce) hcv hcl T' rfl X8
    exact ⟨t2, st'.trans a1, b1⟩
theorem g_callVT {b ci n9 : Nat} {E : String} (B : Amb D A0 ev own nm cc nL ret rm) (hc : CalOK y cc2 nL2 ret2 n) (hl : Cond.methodLink own index y ∈ gd) (hi : Cond.instanceMethod y ∈ gd) (hse : Cond.selects y.cls y y ∈ gd) (hk : mK X b = some (ci, n9)) (hci : ci < 12) (hcl : clC ci = y.cls)
    (hM : ∀ l, l.stackTraces = false → Ctr D l y cc2 nL2 ret2 rm2 (vA (some b) :: As) X (.inl E) X') (hn : As.length = n) (hw : tW st ≤ 8) (hr : rm2.frames + 1 ≤ rm.frames ∧ 8 + (nL2 + 11) + rm2.locals ≤ rm.locals) (hf : cs + rm2.cells ≤ rm.cells ∧ sl + rm2.slots ≤ rm.slots) (d : decode cc pc = .ok (.invokevirtual index, 3))
    (k9 : Gx D A0 ev Q X E (cs + rm2.cells) (sl + rm2.slots) pc L st) : Gd D A0 ev Q X cs sl pc L (As.reverse ++ vA (some b) :: st) := by
  obtain ⟨p, l, e9, R, s, m, args, below, meth, c9⟩ := ev
  intro H locs ls hR hA hS hl9
  have hRR : R = rm := B.2.2.2.2.2.2.2.1
  subst hRR
  obtain ⟨o1, -⟩ := clsOK ci hci
  rw [tS_rev]
  refine callXT (Q := Q) B.2.2.2.2.2.2.2.2.1 hR.2 hA hS (rest := tS st) (vx_runV (As := tS As) (rest := tS st) (C := y.cls) ⟨B.1, B.2.1, B.2.2.1, B.2.2.2.1, fun w hw => B.2.2.2.2.1.w hw⟩ (hM l B.2.2.2.2.2.2.2.2.2.1) ⟨callB B.2.2.2.2.1 hc hl hr, B.2.2.2.2.1.w hi, B.2.2.2.2.1.w hse⟩ ⟨cPc_blind, ?_, callP B.2.2.2.2.2.2.2.2.1 B.2.2.2.2.1 B.2.2.2.2.2.2.2.2.2.2.1 hR hA hS (vA (some b) :: As)⟩ rfl (by simpa [tS] using hn) (hl9.1.trans B.2.2.1) rfl (lv_room (m := m) (pc := pc) (ls := ls) (rest := []) (by rw [tW_sum]; exact hw)) d hf) (fun H1 locs1 q ce h1 h3 g1 g2 g3 => k9 H1 locs1 ls q ce h1 hA h3 hl9 g1 g2 g3)
  have h9 := va_recv (D := (D.1, D.2.1)) (cl := vwCl) (ws := [(b, .inr (ci, fsOf X ci b))]) B.2.2.2.2.1.1 (P1 (hR.objAt hk hci)) (ci := ci) (q0 := 0) o1 rfl
  obtain ⟨cell, g1, g2, g3⟩ := h9
  exact ⟨cell, g1, g2, by rw [← hcl]; exact g3⟩
theorem g_callST {E : String} (B : Amb D A0 ev own nm cc nL ret rm) (hc : CalOK y cc2 nL2 ret2 n) (hl : Cond.methodLink own index y ∈ gd) (hi : Cond.static y ∈ gd)
    (hM : ∀ l, l.stackTraces = false → Ctr D l y cc2 nL2 ret2 rm2 As X (.inl E) X') (hn : As.length = n) (hw : tW st ≤ 8) (hr : rm2.frames + 1 ≤ rm.frames ∧ 8 + (nL2 + 11) + rm2.locals ≤ rm.locals) (hf : cs + rm2.cells ≤ rm.cells ∧ sl + rm2.slots ≤ rm.slots) (d : decode cc pc = .ok (.invokestatic index, 3))
    (k9 : Gx D A0 ev Q X E (cs + rm2.cells) (sl + rm2.slots) pc L st) : Gd D A0 ev Q X cs sl pc L (As.reverse ++ st) := by
  obtain ⟨p, l, e9, R, s, m, args, below, meth, c9⟩ := ev
  intro H locs ls hR hA hS hl9
  have hRR : R = rm := B.2.2.2.2.2.2.2.1
  subst hRR
  rw [tS_rev']
  exact callXT (Q := Q) B.2.2.2.2.2.2.2.2.1 hR.2 hA hS (rest := tS st) (vx_runS (As := tS As) (rest := tS st) ⟨B.1, B.2.1, B.2.2.1, B.2.2.2.1, fun w hw => B.2.2.2.2.1.w hw⟩ (hM l B.2.2.2.2.2.2.2.2.2.1) ⟨callB B.2.2.2.2.1 hc hl hr, B.2.2.2.2.1.w hi⟩ ⟨cPc_blind, callP B.2.2.2.2.2.2.2.2.1 B.2.2.2.2.1 B.2.2.2.2.2.2.2.2.2.2.1 hR hA hS As⟩ rfl (by simpa [tS] using hn) (hl9.1.trans B.2.2.1) rfl (lv_room (m := m) (pc := pc) (ls := ls) (rest := []) (by rw [tW_sum]; exact hw)) d hf) (fun H1 locs1 q ce h1 h3 g1 g2 g3 => k9 H1 locs1 ls q ce h1 hA h3 hl9 g1 g2 g3)
end GX
theorem zM_K {X : Mem} {z : Nat} : mK (zM X z) = mK X := rfl
/-- not caught here -/
theorem g_out {D : DD} {ev : EV} {X : Mem} {X' : Mem} {E : String} {cs sl pc : Nat} {L : List (Nat × TV)} {st : List TV} {own nm : String} {cc : ByteArray} {nL : Nat} {ret : Option FieldType} {rm : Room} (B : Amb D (foot X) ev own nm cc nL ret rm) (ht : Tb0 ev) (hc : cs ≤ rm.cells) (hs : sl ≤ rm.slots) : Gx D (foot X) ev (QF D ev X (.inl E) X' rm) X E cs sl pc L st := by
  obtain ⟨p, l, e9, R, s, m, args, below, meth, c9⟩ := ev
  intro H locs ls q ce hR hA hS hl hce hcv hcl
  exact vx_out (fun x hx => (ht x hx).elim) B.2.2.2.2.2.1 hce hcv hcl (fun t h1 h2 => ⟨rfl, by rw [h1]; exact hR, hS.F h1⟩) hS.2.2 hc hs
