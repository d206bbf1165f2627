/-! TWO MEMORIES SIDE BY SIDE, and the frame rule -/
def uM (X Y : Mem) : Mem := (fun a => match mK X a with
  | some k => some k
  | none => mK Y a, fun f a => if (mK X a).isSome then mI X f a else mI Y f a, fun f a => if (mK X a).isSome then mR X f a else mR Y f a, fun a => if (mK X a).isSome then aI X a else aI Y a, fun a => if (mK X a).isSome then aJ X a else aJ Y a, fun a => if (mK X a).isSome then aR X a else aR Y a, mZ X)
def apM (X Y : Mem) : Prop := ∀ a, mK Y a ≠ none → mK X a = none
theorem uM_Kl {X Y : Mem} {a : Nat} {k : Nat × Nat} (h : mK X a = some k) : mK (uM X Y) a = some k := by
  show (match mK X a with
    | some k => some k
    | none => mK Y a) = _
  rw [h]
theorem uM_Kr {X Y : Mem} {a : Nat} (h : mK X a = none) : mK (uM X Y) a = mK Y a := by
  show (match mK X a with
    | some k => some k
    | none => mK Y a) = _
  rw [h]
theorem uM_cl {D : DD} {X Y : Mem} {a c n : Nat} {k : Nat × Nat} (h : mK X a = some k) : cellOf D (uM X Y) a c n = cellOf D X a c n := by
  have hs : (mK X a).isSome = true := by rw [h]; rfl
  have e1 : fsOf (uM X Y) c a = fsOf X c a := by
    unfold fsOf
    refine List.map_congr_left fun j _ => ?_
    have q1 : mR (uM X Y) (100 * c + j) a = mR X (100 * c + j) a := if_pos hs
    have q2 : mI (uM X Y) (100 * c + j) a = mI X (100 * c + j) a := if_pos hs
    rw [q1, q2]
  have e2 : aI (uM X Y) a = aI X a := if_pos hs
  have e3 : aJ (uM X Y) a = aJ X a := if_pos hs
  have e4 : aR (uM X Y) a = aR X a := if_pos hs
  unfold cellOf
  rw [e1, e2, e3, e4]
theorem uM_cr {D : DD} {X Y : Mem} {a c n : Nat} (h : mK X a = none) : cellOf D (uM X Y) a c n = cellOf D Y a c n := by
  have hs : ¬ (mK X a).isSome = true := by rw [h]; decide
  have e1 : fsOf (uM X Y) c a = fsOf Y c a := by
    unfold fsOf
    refine List.map_congr_left fun j _ => ?_
    have q1 : mR (uM X Y) (100 * c + j) a = mR Y (100 * c + j) a := if_neg hs
    have q2 : mI (uM X Y) (100 * c + j) a = mI Y (100 * c + j) a := if_neg hs
    rw [q1, q2]
  have e2 : aI (uM X Y) a = aI Y a := if_neg hs
  have e3 : aJ (uM X Y) a = aJ Y a := if_neg hs
  have e4 : aR (uM X Y) a = aR Y a := if_neg hs
  unfold cellOf
  rw [e1, e2, e3, e4]
theorem cellOf_zM {D : DD} {X : Mem} {z a c n : Nat} : cellOf D (zM X z) a c n = cellOf D X a c n := rfl
theorem RepM.union {D : DD} {X Y : Mem} {H : Heap} (hX : RepM D X H) (hY : RepM D Y H) : RepM D (uM X Y) H := by
  refine ⟨fun a c n hk => ?_, hX.2⟩
  cases hx : mK X a with
  | some k =>
    rw [uM_Kl hx] at hk
    cases hk
    rw [uM_cl hx]
    exact hX.1 a c n hx
  | none =>
    rw [uM_Kr hx] at hk
    rw [uM_cr hx]
    exact hY.1 a c n hk
theorem RepM.left {D : DD} {X Y : Mem} {H : Heap} (h : RepM D (uM X Y) H) : RepM D X H := by
  refine ⟨fun a c n hk => ?_, h.2⟩
  have h1 := h.1 a c n (uM_Kl hk)
  rw [uM_cl hk] at h1
  exact h1
theorem RepM.right {D : DD} {X Y : Mem} {H : Heap} (hd : apM X Y) (h : RepM D (uM X Y) H) : RepM D (zM Y (mZ X)) H := by
  refine ⟨fun a c n hk => ?_, h.2⟩
  have hk' : mK Y a = some (c, n) := hk
  have hx : mK X a = none := hd a (by rw [hk']; exact fun z => nomatch z)
  have h1 := h.1 a c n (by rw [uM_Kr hx]; exact hk')
  rw [uM_cr hx] at h1
  exact h1
theorem RepM.lt {D : DD} {X : Mem} {H : Heap} (h : RepM D X H) {a : Nat} (ha : mK X a ≠ none) : a < H.size := by
  cases hk : mK X a with
  | none => exact absurd hk ha
  | some k =>
    obtain ⟨c, n⟩ := k
    exact (h.1 a c n hk).2.lt
theorem foot_l {X Y : Mem} {q : Nat} (h : foot X q) : foot (uM X Y) q := by
  rcases h with h | h
  · cases hk : mK X q with
    | none => exact absurd hk h
    | some k => exact Or.inl (by rw [uM_Kl hk]; exact fun z => nomatch z)
  · exact Or.inr h
theorem zM_zM {X : Mem} {y z : Nat} : zM (zM X y) z = zM X z := rfl
theorem uM_z {X Y : Mem} {z : Nat} : uM (zM X z) Y = zM (uM X Y) z := rfl
theorem uM_zr {X Y : Mem} {z : Nat} : uM X (zM Y z) = uM X Y := rfl
/-- what a run leaves of a memory beside it -/
theorem frame_r {D : DD} {X Y X' : Mem} {st t : State} {z : Nat} (hd : apM X Y) (hst : RepM D (uM X Y) st.heap) (hX' : RepM D X' t.heap) (hdom : ∀ a, mK X' a ≠ none → foot X a) (hF : va_F (foot X) st t) : RepM D (zM Y z) t.heap ∨ ∀ _ : z = t.heap.size, RepM D (zM Y z) t.heap := by
  refine Or.inr fun hz => ⟨fun a c n hk => ?_, hz⟩
  have hk' : mK Y a = some (c, n) := hk
  have hY := hst.right hd
  have hna : mK Y a ≠ none := by rw [hk']; exact fun z => nomatch z
  have hx : mK X a = none := hd a hna
  have h1 := hY.1 a c n hk'
  have hlt : a < st.heap.size := h1.2.lt
  refine ⟨h1.1, h1.2.kept (hF.2 a hlt ?_)⟩
  intro hf
  rcases hf with hf | hf
  · exact hf hx
  · rw [show mZ X = st.heap.size from hst.2] at hf
    omega
theorem Ctr.frame {D : DD} {l : Launch} {y : MethodName} {cc : ByteArray} {nL : Nat} {ret : Option FieldType} {rm : Room} {av : List TV} {X : Mem} {o : String ⊕ Option TV} {X' : Mem} (h : Ctr D l y cc nL ret rm av X o X') (Y : Mem) (hd : apM X Y) : Ctr D l y cc nL ret rm av (uM X Y) o (uM X' Y) := by
  intro p e ha hc hk s m args below hf happ hP hK
  obtain ⟨h1, h2, h3, h4⟩ := hP
  have hAB : ∀ q, foot X q → foot (uM X Y) q := fun q h => foot_l h
  obtain ⟨n, oc, g1, g2, g3, g4⟩ := h p e ha hc hk s m args below hf happ ⟨h1, h2.left, h3, h4.1.narrow hAB, h4.2.narrow hAB⟩ hK
  refine ⟨n, oc, g1, g2, g3, ?_⟩
  have fr : ∀ t : State, va_F (foot X) s t → va_F (foot (uM X Y)) s t := fun t hF => ⟨hF.1, fun q a b => hF.2 q a (fun z => b (hAB q z))⟩
  rcases g4 with ⟨⟨v, e1, e2, p1, p2, p3⟩, L, q1, q2⟩ | ⟨q, e1, E, ce, L, ⟨x1, ⟨z, x2⟩, x3⟩, w1, w2, w3, w4, w5, w6⟩
  · refine Or.inl ⟨⟨v, e1, e2, ?_, ?_, fr _ p3⟩, L, q1, fun q hq => hAB _ (q2 q hq)⟩
    · rcases frame_r (z := mZ X') hd h2 p1 p2 p3 with k | k
      · have k2 := p1.union k
        exact k2
      · have k2 := p1.union (k p1.2)
        exact k2
    · intro a ha
      cases hx : mK X' a with
      | some k => exact hAB a (p2 a (by rw [hx]; exact fun z => nomatch z))
      | none =>
        rw [uM_Kr hx] at ha
        exact Or.inl (by rw [uM_Kr (hd a ha)]; exact ha)
  · refine Or.inr ⟨q, e1, E, ce, L, ⟨x1, ⟨z, ?_⟩, fr _ x3⟩, w1, w2, w3, w4, w5, fun z hz => hAB _ (w6 z hz)⟩
    rw [← uM_z]
    rcases frame_r (z := z) hd h2 x2 (fun a h => Or.inl h) x3 with k | k
    · have k2 := x2.union k
      exact k2
    · have k2 := x2.union (k x2.2)
      exact k2
/-! METHODS WITH HANDLERS: their contract says what holds behind them -/
def ncW : List (String × String) := [("java/lang/IllegalArgumentException", "java/lang/IndexOutOfBoundsException"), ("java/lang/IllegalStateException", "java/lang/IndexOutOfBoundsException"), ("java/lang/IllegalStateException", "java/lang/IllegalArgumentException")]
def NcAll (U : State) : Prop := ∀ q ∈ ncW, va_Nc q.1 q.2 U
def pPc (D : DD) (av : List TV) (X : Mem) : Array Value → State → Prop := fun v U => cPc D av X v U ∧ NcAll U
def pQc (D : DD) (X : Mem) (P : Option TV → Mem → Prop) : Array Value → State → Outcome → State → Prop := fun _ st oc t => ∃ (v : Option TV) (X' : Mem), P v X' ∧ oc = .returned (v.map tv) ∧ cPo D X X' st t
def CtrP (D : DD) (l : Launch) (y : MethodName) (cc : ByteArray) (nL : Nat) (ret : Option FieldType) (hh : List (Nat × Nat × Nat × Nat)) (rm : Room) (av : List TV) (X : Mem) (P : Option TV → Mem → Prop) : Prop :=
  Met l y [Cond.codeWith y cc nL ret hh] rm (pPc D av X) (pQc D X P) rm.cells rm.slots (foot X)
def QP (D : DD) (ev : EV) (X : Mem) (P : Option TV → Mem → Prop) (rm : Room) : State → Prop := match ev with
  | (_, _, _, _, s, _, args, below, _, _) => MQ below (pQc D X P) args s rm.cells rm.slots (foot X)
def TbH (ev : EV) (hh : List (Nat × Nat × Nat × Nat)) : Prop := match ev with
  | (_, _, _, _, s, _, _, _, _, c) => c.exceptionTable.toList = tableOf hh ∧ NcAll s
theorem NcAll.warm {s U : State} (hW : s.WarmedH U.vm) (h : NcAll s) : NcAll U := fun q hq => va_Nc.moved hW.alike (h q hq)
theorem ctrP_of {D : DD} {l : Launch} {y : MethodName} {cc : ByteArray} {nL : Nat} {ret : Option FieldType} {hh : List (Nat × Nat × Nat × Nat)} {rm : Room} {av : List TV} {X : Mem} {P : Option TV → Mem → Prop} (hst : l.stackTraces = false) (hy : plainName y.cls = true) (hw : tW av ≤ nL)
    (body : ∀ ev : EV, TbH ev hh → Amb D (foot X) ev y.cls y.name cc nL ret rm → Gd D (foot X) ev (QP D ev X P rm) X 0 0 0 (tA 0 av) []) : CtrP D l y cc nL ret hh rm av X P := by
  unfold CtrP Met
  refine MetFree.of_bodyS (code := cc) (maxLocals := nL) (ret := ret) hy ?_ ?_
  · intro args s m h hn
    obtain ⟨m9, meth, c, hn9, h1, h2, h3, h4, -, h5, h6, -⟩ := Cond.codeWith_spec (atoms_spec (ws := [Cond.codeWith y cc nL ret hh]) h _ (List.mem_cons_self))
    cases hn.symm.trans hn9
    exact ⟨meth, c, h1, h2, h3, h4, h5, h6⟩
  · intro p e s m args below meth c s₁ B hml hP _
    obtain ⟨⟨rfl, hR, hAK, hz⟩, hnc⟩ := hP
    have hh0 : s₁.heap = s.heap := by rw [B.state]; rfl
    have hown : s.vm.findClass y.cls = some m.cls := findClass_of_methodNamed B.named
    have hA0 : ∀ q : Nat, s.heap.size ≤ q → foot X q := fun q h => Or.inr (by rw [hR.2]; exact h)
    have hS : va_S (foot X) s.heap s.heap [] := va_S.rf
    have hl := lv_entry (tS av) (n := nL) (by rw [tW_sl]; exact hw)
    rw [← tA_args] at hl
    have ht : c.exceptionTable.toList = tableOf hh := vx_table (x := y) B (atoms_spec (ws := [Cond.codeWith y cc nL ret hh]) B.pre _ List.mem_cons_self)
    have k := body (p, l, e, rm, s, m, (tS av).toArray, below, meth, c) ⟨ht, hnc⟩ ⟨B.exec, B.bytes, hml, hown, hAK, B.notSynchronized, B.returns, rfl, hA0, hst, hz, (name_of_methodNamed B.named B.method).1⟩
    have k9 := k s.heap [] _ hR (fun a h => Or.inl h) hS (by rw [hml]; exact hl)
    have k8 : W p l e rm s m (tS av).toArray below meth c s.heap [] 0 0 (MQ below (pQc D X P) (tS av).toArray s rm.cells rm.slots (foot X)) (entryFrame m (tS av).toArray nL) := by
      rw [lg_entry_eq]
      exact k9
    obtain ⟨t, a1, o, b1, b2, b3⟩ := k8 s₁ hh0 (Stand.of_body B)
    exact ⟨t, o, a1, b1, b2, b3.1, b3.2⟩
section GP
variable {D : DD} {ev : EV} {X X0 : Mem} {cs sl pc : Nat} {L : List (Nat × TV)} {st : List TV} {own nm : String} {cc : ByteArray} {nL : Nat} {ret : Option FieldType} {rm : Room} {P : Option TV → Mem → Prop} {A0 : Nat → Prop} {Q : State → Prop}
theorem p_ret_I {v : Int32} (B : Amb D (foot X0) ev own nm cc nL ret rm) (hret : ret = some .int) (hp : P (some (vI v)) X) (hc : cs ≤ rm.cells) (hs : sl ≤ rm.slots) (d : decode cc pc = .ok (.ireturn, 1)) : Gd D (foot X0) ev (QP D ev X0 P rm) X cs sl pc L [vI v] := by
  obtain ⟨p, l, e9, R, s, m, args, below, meth, c9⟩ := ev
  intro H locs ls hR hA hS hl
  refine W.widen hc hs ?_
  exact W.iret B.1 B.2.1 (B.2.2.2.2.2.2.1.trans hret) (fun t ht hW => ⟨some (vI v), X, hp, rfl, cPo_end ht hR hA hS⟩) hS.2.2 d B.2.2.2.2.2.1
/-- caught by the handler x of the table, past rows that name other classes -/
theorem g_catch {E : String} {hh : List (Nat × Nat × Nat × Nat)} (pre : List (Nat × Nat × Nat × Nat)) (x : Nat × Nat × Nat × Nat) (suf : List (Nat × Nat × Nat × Nat)) (B : Amb D A0 ev own nm cc nL ret rm) (ht : TbH ev hh) (hsplit : hh = pre ++ x :: suf) (hp : ∀ z ∈ pre, z.2.2.2 ≠ 0 ∧ ∃ n : String, Cond.classLink own z.2.2.2 n ∈ gd ∧ (E, n) ∈ ncW) (hx : x.1 ≤ pc ∧ pc < x.2.1) (h0 : x.2.2.2 ≠ 0) (hlink : Cond.classLink own x.2.2.2 E ∈ gd) (hcast : Cond.castable E E ∈ castW)
    (kk : ∀ (z q : Nat), Gd D A0 ev Q (zM X z) cs sl x.2.2.1 L [vA (some q)]) : Gx D A0 ev Q X E cs sl pc L st := by
  obtain ⟨p, l, e9, R, s, m, args, below, meth, c9⟩ := ev
  intro H locs ls q ce hR hA hS hl hce hcv hcl
  obtain ⟨z, hR⟩ := hR
  obtain ⟨ht1, ht2⟩ := ht
  have hAK := B.2.2.2.2.1
  refine vx_catch (own := own) (name := E) (E := E) B.2.2.2.1 (tableOf pre) ⟨x.1, x.2.1, x.2.2.1, x.2.2.2⟩ (tableOf suf) ?_ ?_ ?_ h0 (hAK.w hlink) (va_Nw.use (castW_t _ hcast) (hAK.2.2.2.2.1 _ hcast)) hce hcv hcl ?_
  · rw [ht1, hsplit]
    simp [tableOf]
  · intro y hy
    obtain ⟨z9, hz9, rfl⟩ := List.mem_map.mp hy
    obtain ⟨e1, n, e2, e3⟩ := hp z9 hz9
    exact Or.inr ⟨e1, n, hAK.w e2, ht2 _ e3⟩
  · simp [covers, hx.1, hx.2]
  · exact kk z q H locs ls hR hA hS hl
end GP
