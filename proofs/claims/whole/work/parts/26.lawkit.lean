/-! THE LAW's BODY: the script, the three memories side by side, calls -/
def LM (X : Mem) (oa : Nat) (g : Nat → Int64) (m : Nat) (S : SM) : Mem := uM (uM X (oM oa g)) (xS m S 0)
def LD (X : Mem) (oa m : Nat) : Prop := mK X oa = none ∧ (∀ a, m ≤ a → a ≤ m + 31 → mK X a = none) ∧ (oa < m ∨ m + 31 < oa)
def Keeps9 (X X1 : Mem) : Prop := mZ X ≤ mZ X1 ∧ (∀ a, a < mZ X → mK X1 a = mK X a)
def A0L (ev : EV) : Nat → Prop := match ev with
  | (_, _, _, _, s, _, _, _, _, _) => fun q => s.heap.size ≤ q
def ScrL (ev : EV) (b L : Nat) (xs : Nat → Int32) : Prop := match ev with
  | (_, _, _, _, s, _, _, _, _, _) => va_X b L xs s s.heap ∧ b < s.heap.size
theorem xS_dom {m a z : Nat} {S : SM} (h : mK (xS m S z) a ≠ none) : m ≤ a ∧ a ≤ m + 31 := by
  by_cases e : a = m
  · omega
  · by_cases e2 : m < a ∧ a ≤ m + 31
    · omega
    · refine absurd ?_ h
      show (if a = m then _ else if m < a ∧ a ≤ m + 31 then _ else none) = none
      rw [if_neg e, if_neg e2]
theorem oM_dom {oa a : Nat} {g : Nat → Int64} (h : mK (oM oa g) a ≠ none) : a = oa := by
  by_cases e : a = oa
  · exact e
  · exact absurd (if_neg e) h
theorem LD.apO {X : Mem} {oa m : Nat} {g : Nat → Int64} (h : LD X oa m) : apM X (oM oa g) := apM_o h.1
theorem LD.apS {X : Mem} {oa m z : Nat} {g : Nat → Int64} {S : SM} (h : LD X oa m) : apM (uM X (oM oa g)) (xS m S z) := by
  intro a ha
  obtain ⟨h1, h2⟩ := xS_dom ha
  have h3 := h.2.1 a h1 h2
  rw [uM_Kr h3]
  refine Classical.byContradiction fun q => ?_
  have := oM_dom q
  have := h.2.2
  omega
theorem LD.apT {X : Mem} {oa m z : Nat} {g : Nat → Int64} {S : SM} (h : LD X oa m) : apM (xS m S z) (uM X (oM oa g)) := by
  intro a ha
  refine Classical.byContradiction fun q => ?_
  exact ha (h.apS a q)
section GL
variable {D : DD} {A0 : Nat → Prop} {ev : EV} {Q : State → Prop} {X : Mem} {cs sl pc : Nat} {L : List (Nat × TV)} {st : List TV} {own nm : String} {cc : ByteArray} {nL : Nat} {ret : Option FieldType} {rm : Room}
theorem g_mem {X1 : Mem} (hi : ∀ H, RepM D X H → RepM D X1 H) (hd : ∀ a, mK X1 a ≠ none → mK X a ≠ none) (k : Gd D A0 ev Q X1 cs sl pc L st) : Gd D A0 ev Q X cs sl pc L st := by
  obtain ⟨p, l, e9, R, s, m, args, below, meth, c⟩ := ev
  exact fun H locs ls hR hA hS hl => k H locs ls (hi H hR) (fun a h => hA a (hd a h)) hS hl
theorem g_dom (k : (∀ a, mK X a ≠ none → a < mZ X) → Gd D A0 ev Q X cs sl pc L st) : Gd D A0 ev Q X cs sl pc L st := by
  obtain ⟨p, l, e9, R, s, m, args, below, meth, c⟩ := ev
  intro H locs ls hR hA hS hl
  exact k (fun a h => by rw [hR.2]; exact hR.lt h) H locs ls hR hA hS hl
theorem uM_dom {X Y : Mem} {a : Nat} : mK (uM X Y) a ≠ none ↔ mK X a ≠ none ∨ mK Y a ≠ none := by
  cases h : mK X a with
  | some k => rw [uM_Kl h]; exact ⟨fun _ => Or.inl (fun z => nomatch z), fun _ => fun z => nomatch z⟩
  | none => rw [uM_Kr h]; exact ⟨fun q => Or.inr q, fun q => q.elim (fun z => absurd rfl z) id⟩
/-- the reference's memory first, and back -/
theorem LM_in {oa m : Nat} {g : Nat → Int64} {S : SM} (h : LD X oa m) (k : Gd D A0 ev Q (uM (xS m S (mZ X)) (uM X (oM oa g))) cs sl pc L st) : Gd D A0 ev Q (LM X oa g m S) cs sl pc L st := by
  refine g_mem (fun H hR => ?_) (fun a ha => ?_) k
  · have h1 := hR.left
    have h2 := hR.right h.apS
    exact h2.union h1
  · rcases uM_dom.mp ha with q | q
    · exact uM_dom.mpr (Or.inr q)
    · exact uM_dom.mpr (Or.inl q)
theorem LM_out {oa m z : Nat} {g : Nat → Int64} {S : SM} (hz : mZ X = z) (h : LD X oa m) (k : Gd D A0 ev Q (LM X oa g m S) cs sl pc L st) : Gd D A0 ev Q (uM (xS m S z) (uM X (oM oa g))) cs sl pc L st := by
  refine g_mem (fun H hR => ?_) (fun a ha => ?_) k
  · have h1 := hR.left
    have h2 := hR.right h.apT
    have e : zM (uM X (oM oa g)) (mZ (xS m S z)) = uM X (oM oa g) := by
      have e1 : mZ (xS m S z) = mZ X := by rw [hz]; rfl
      rw [e1]
      rfl
    rw [e] at h2
    have h3 := h2.union h1
    exact h3
  · rcases uM_dom.mp ha with q | q
    · exact uM_dom.mpr (Or.inr q)
    · exact uM_dom.mpr (Or.inl q)
variable {y : MethodName} {cc2 : ByteArray} {nL2 n index : Nat} {ret2 : Option FieldType} {rm2 : Room} {As : List TV} {v : Option TV} {oa m x : Nat} {g : Nat → Int64} {S S' : SM} {st9 st10 : List TV} {cs' sl' : Nat}
/-- a call of the reference -/
theorem l_ref (B : Amb D A0 ev own nm cc nL ret rm) (hc : CalOK y cc2 nL2 ret2 n) (hl : Cond.methodLink own index y ∈ gd) (hi : Cond.instanceMethod y ∈ gd) (hse : Cond.selects y.cls y y ∈ gd) (hcl : clC 12 = y.cls) (hLD : LD X oa m)
    (hM : ∀ l, l.stackTraces = false → ∀ z, Ctr D l y cc2 nL2 ret2 rm2 (vA (some m) :: As) (xS m S z) (.inr v) (xS m S' z)) (hn : As.length = n) (hw : tW st ≤ 8) (hr : rm2.frames + 1 ≤ rm.frames ∧ 8 + (nL2 + 11) + rm2.locals ≤ rm.locals) (h0 : rm2.cells = 0 ∧ rm2.slots = 0) (hf : cs ≤ rm.cells ∧ sl ≤ rm.slots) (d : decode cc pc = .ok (.invokevirtual index, 3))
    (e9 : As.reverse ++ vA (some m) :: st = st9) (e10 : v.toList ++ st = st10) (k9 : Gd D A0 ev Q (LM X oa g m S') cs sl (pc + 3) L st10) : Gd D A0 ev Q (LM X oa g m S) cs sl pc L st9 := by
  subst e9; subst e10
  refine LM_in hLD ?_
  refine g_callV (ci := 12) (n9 := 0) B hc hl hi hse (uM_Kl hkS) (by decide) hcl (fun l h => (hM l h (mZ X)).frame _ hLD.apT) hn hw hr ⟨by rw [h0.1]; exact hf.1, by rw [h0.2]; exact hf.2⟩ d ?_
  rw [h0.1, h0.2]
  exact LM_out rfl hLD k9
/-- a call of the class itself, past the wrappers -/
theorem l_cls {X1 : Mem} (B : Amb D A0 ev own nm cc nL ret rm) (hc : CalOK y cc2 nL2 ret2 n) (hl : Cond.methodLink own index y ∈ gd) (hi : Cond.instanceMethod y ∈ gd) (hse : Cond.selects y.cls y y ∈ gd) (hcl : clC 11 = y.cls) (hLD : LD X oa m) (hx : mK X x = some (11, 0))
    (hM : ∀ l, l.stackTraces = false → Ctr D l y cc2 nL2 ret2 rm2 (vA (some x) :: As) X (.inr v) X1) (hn : As.length = n) (hw : tW st ≤ 8) (hr : rm2.frames + 1 ≤ rm.frames ∧ 8 + (nL2 + 11) + rm2.locals ≤ rm.locals) (h0 : rm2.cells = 0 ∧ rm2.slots = 0) (hf : cs ≤ rm.cells ∧ sl ≤ rm.slots) (d : decode cc pc = .ok (.invokevirtual index, 3))
    (e9 : As.reverse ++ vA (some x) :: st = st9) (e10 : v.toList ++ st = st10) (k9 : Gd D A0 ev Q (LM X1 oa g m S) cs sl (pc + 3) L st10) : Gd D A0 ev Q (LM X oa g m S) cs sl pc L st9 := by
  subst e9; subst e10
  refine g_callV (ci := 11) (n9 := 0) B hc hl hi hse (uM_Kl (uM_Kl hx)) (by decide) hcl (fun l h => ((hM l h).frame _ hLD.apO).frame _ hLD.apS) hn hw hr ⟨by rw [h0.1]; exact hf.1, by rw [h0.2]; exact hf.2⟩ d ?_
  rw [h0.1, h0.2]
  exact k9
theorem CtrP.frame {hh : List (Nat × Nat × Nat × Nat)} {l : Launch} {av : List TV} {P : Option TV → Mem → Prop} (h : CtrP D l y cc2 nL2 ret2 hh rm2 av X P) (Y : Mem) (hd : apM X Y) : CtrP D l y cc2 nL2 ret2 hh rm2 av (uM X Y) (fun v X' => ∃ X1, P v X1 ∧ X' = uM X1 Y) := by
  intro p e ha hc hk s m args below hf happ hP hK
  obtain ⟨⟨h1, h2, h3, h4⟩, h5⟩ := hP
  have hAB : ∀ q, foot X q → foot (uM X Y) q := fun q h => foot_l h
  obtain ⟨n, oc, g1, g2, g3, ⟨v, X1, e0, e1, p1, p2, p3⟩, L, q1, q2⟩ := h p e ha hc hk s m args below hf happ ⟨⟨h1, h2.left, h3, h4.1.narrow hAB, h4.2.narrow hAB⟩, h5⟩ hK
  refine ⟨n, oc, g1, g2, g3, ⟨v, uM X1 Y, ⟨X1, e0, rfl⟩, e1, ?_, fun a ha => ?_, p3.1, fun q a b => p3.2 q a (fun z => b (hAB q z))⟩, L, q1, fun q hq => hAB _ (q2 q hq)⟩
  · rcases frame_r (z := mZ X1) hd h2 p1 p2 p3 with k | k
    · have k2 := p1.union k
      exact k2
    · have k2 := p1.union (k p1.2)
      exact k2
  · rcases uM_dom.mp ha with q | q
    · exact hAB a (p2 a q)
    · exact Or.inl (uM_dom.mpr (Or.inr q))
/-- a call of a wrapper -/
theorem l_wrap {hh : List (Nat × Nat × Nat × Nat)} {ks : List String} {r : String ⊕ (Int64 × Mem)} (B : Amb D A0 ev own nm cc nL ret rm) (hnc : EvNc ev) (hc : CalW y cc2 nL2 ret2 hh n) (hl : Cond.methodLink own index y ∈ gd) (hi : Cond.static y ∈ gd) (hLD : LD X oa m)
    (hM : ∀ l, l.stackTraces = false → CtrP D l y cc2 nL2 ret2 hh rm2 As (uM X (oM oa g)) (wPost oa g ks X r)) (hn : As.length = n) (hw : tW st ≤ 8) (hr : rm2.frames + 1 ≤ rm.frames ∧ 8 + (nL2 + 11) + rm2.locals ≤ rm.locals) (h0 : rm2.cells ≤ 16 ∧ rm2.slots ≤ 200) (hf : cs + 16 ≤ rm.cells ∧ sl + 200 ≤ rm.slots) (d : decode cc pc = .ok (.invokestatic index, 3))
    (e9 : As.reverse ++ st = st9)
    (kx : ∀ (E : String) (k z : Nat), r = .inl E → ks[k]? = some E → Gd D A0 ev Q (LM (zM X z) oa g m S) (cs + 16) (sl + 200) (pc + 3) L (vI (nI (k + 1)) :: st))
    (kr : ∀ (w : Int64) (X1 : Mem), r = .inr (w, X1) → Gd D A0 ev Q (LM X1 oa (up0 g w) m S) (cs + 16) (sl + 200) (pc + 3) L (vI 0 :: st)) : Gd D A0 ev Q (LM X oa g m S) cs sl pc L st9 := by
  subst e9
  refine g_callP B hnc hc hl hi (fun l h => (hM l h).frame (xS m S 0) hLD.apS) hn hw hr ⟨Nat.le_trans (Nat.add_le_add_left h0.1 _) hf.1, Nat.le_trans (Nat.add_le_add_left h0.2 _) hf.2⟩ d ?_
  intro v X' hP
  obtain ⟨X1, hP, rfl⟩ := hP
  refine g_widen (Nat.add_le_add_left h0.1 _) (Nat.add_le_add_left h0.2 _) ?_
  rcases r with E | ⟨w, X2⟩
  · obtain ⟨k, z, h1, rfl, rfl⟩ := hP
    exact kx E k z rfl h1
  · obtain ⟨rfl, rfl⟩ := hP
    exact kr w X2 rfl
theorem g_sld {b Ls : Nat} {xs : Nat → Int32} {i w : Int32} (B : Amb D (A0L ev) ev own nm cc nL ret rm) (hs : ScrL ev b Ls xs) (hin : vp_in i Ls) (he : xs i.toNatClampNeg = w) (d : decode cc pc = .ok (.iaload, 1)) (k9 : Gd D (A0L ev) ev Q X cs sl (pc + 1) L (vI w :: st)) : Gd D (A0L ev) ev Q X cs sl pc L (vI i :: vA (some b) :: st) := by
  obtain ⟨p, l, e9, R, s, m, args, below, meth, c⟩ := ev
  intro H locs ls hR hA hS hl
  subst he
  exact va_sld B.1 B.2.1 hs.1 hs.2 (fun q => by have h1 : s.heap.size ≤ b := q; have h2 := hs.2; omega) hS hin d (k9 H locs ls hR hA hS hl)
theorem g_slen {b Ls : Nat} {xs : Nat → Int32} (B : Amb D (A0L ev) ev own nm cc nL ret rm) (hs : ScrL ev b Ls xs) (d : decode cc pc = .ok (.arraylength, 1)) (k9 : Gd D (A0L ev) ev Q X cs sl (pc + 1) L (vI (nI Ls) :: st)) : Gd D (A0L ev) ev Q X cs sl pc L (vA (some b) :: st) := by
  obtain ⟨p, l, e9, R, s, m, args, below, meth, c⟩ := ev
  intro H locs ls hR hA hS hl
  exact va_slen B.1 B.2.1 hs.1 hs.2 (fun q => by have h1 : s.heap.size ≤ b := q; have h2 := hs.2; omega) hS d (k9 H locs ls hR hA hS hl)
theorem LM_out0 {oa m : Nat} {g : Nat → Int64} {S : SM} (h : LD X oa m) : mK (LM X oa g m S) oa = some (22, 1) := uM_Kl ((uM_Kr h.1).trans oM_K)
theorem LM_aJ {oa m : Nat} {g : Nat → Int64} {w : Int64} {S : SM} (h : LD X oa m) : aJ (LM X oa (up0 g w) m S) oa (0 : Int32).toNatClampNeg = w := by
  have h1 : (mK (uM X (oM oa (up0 g w))) oa).isSome = true := by rw [uM_Kr h.1, oM_K]; rfl
  have h2 : ¬ (mK X oa).isSome = true := by rw [h.1]; decide
  have e1 : aJ (LM X oa (up0 g w) m S) oa = aJ (uM X (oM oa (up0 g w))) oa := if_pos h1
  have e2 : aJ (uM X (oM oa (up0 g w))) oa = aJ (oM oa (up0 g w)) oa := if_neg h2
  rw [e1, e2, show (0 : Int32).toNatClampNeg = 0 from by decide]
  show (if oa = oa then up0 g w 0 else 0) = w
  rw [if_pos rfl]
  exact if_pos rfl
end GL
theorem cmp_self (w : Int64) : lg_cmp w w = 0 := by
  have h : ¬ w < w := by
    rw [Int64.lt_iff_toInt_lt]
    omega
  simp [lg_cmp]
theorem LD.keep {X X1 : Mem} {oa m : Nat} (h : LD X oa m) (ho : oa < mZ X) (hm : m + 31 < mZ X) (k : Keeps9 X X1) : LD X1 oa m := ⟨by rw [k.2 oa ho]; exact h.1, fun a h1 h2 => by rw [k.2 a (by omega)]; exact h.2.1 a h1 h2, h.2.2⟩
