/-! 'throw new X("text")' in the class TurtleChalk -/
abbrev nmsX : List String := ["java/lang/RuntimeException", "java/lang/Exception"]
def ThrOK (cls : String) (ic : Nat) : Prop := Bundle.fit cls = true ∧ (∀ n ∈ nmsX, Bundle.fit n = true) ∧ (∀ w ∈ vx_atS RX11 ic cls nmsX, w ∈ gd ∨ w ∈ castW ∨ w ∈ declW) ∧ (∀ w ∈ vx_atS RX11 ic cls nmsX, vx_ot w = true)
set_option maxRecDepth 20000 in
theorem thrA : ThrOK "java/lang/IllegalArgumentException" 184 := ⟨by decide +kernel, by decide +kernel, by decide +kernel, by decide +kernel⟩
set_option maxRecDepth 20000 in
theorem thrB : ThrOK "java/lang/IndexOutOfBoundsException" 208 := ⟨by decide +kernel, by decide +kernel, by decide +kernel, by decide +kernel⟩
set_option maxRecDepth 20000 in
theorem thrS : ThrOK "java/lang/IllegalStateException" 89 := ⟨by decide +kernel, by decide +kernel, by decide +kernel, by decide +kernel⟩
theorem castW_t : ∀ w ∈ castW, w.onTables = true := by decide +kernel
theorem declW_t : ∀ w ∈ declW, w.onTables = true := by decide +kernel
theorem RepM.grown {D : DD} {X : Mem} {H H1 : Heap} (h : RepM D X H) (oq : ∀ q : Nat, q < H.size → H1[q]? = H[q]?) : RepM D (zM X H1.size) H1 :=
  ⟨fun a c n hk => ⟨(h.1 a c n hk).1, (h.1 a c n hk).2.kept (oq a (h.1 a c n hk).2.lt)⟩, rfl⟩
section GT
variable {D : DD} {ev : EV} {X : Mem} {cs sl pc : Nat} {L : List (Nat × TV)} {st : List TV} {nm : String} {cc : ByteArray} {nL : Nat} {ret : Option FieldType} {rm : Room}
theorem thr_at {cls : String} {ic : Nat} {s : State} {args : Array Value} (hT : ThrOK cls ic) (hAK : AK D s) : ∀ w ∈ vx_atS RX11 ic cls nmsX, w.before args s = true := by
  intro w hw
  rcases hT.2.2.1 w hw with h | h | h
  · exact hAK.w h
  · exact va_Nw.use (castW_t w h) (hAK.2.2.2.2.1 w h)
  · exact va_Nw.use (declW_t w h) (hAK.2.2.2.2.2.1 w h)
theorem thr_ot {w : Cond} (h : w ∈ gd) (ht : w.onTables = true) : vx_ot w = true := by unfold vx_ot; rw [ht]; rfl
theorem g_throwS {cls text : String} {ik is ic : Nat} {X' : Mem} (B : Amb D (foot X) ev RX11 nm cc nL ret rm) (ht : Tb0 ev) (hT : ThrOK cls ic) (hk : Cond.classLink RX11 ik cls ∈ gd) (hini : Cond.initialized cls ∈ gd) (hstr : (is, text) ∈ strW)
    (d0 : decode cc pc = .ok (.new ik, 3)) (d3 : decode cc (pc + 3) = .ok (.dup, 1)) (d4 : decode cc (pc + 4) = .ok (.ldc is, 2)) (d6 : decode cc (pc + 6) = .ok (.invokespecial ic, 3)) (d9 : decode cc (pc + 9) = .ok (.athrow, 1)) (hw : tW st + 82 ≤ rm.locals) (hfr : 5 < rm.frames) (hcs : cs + 1 ≤ rm.cells) (hsl : sl + 6 ≤ rm.slots) : Gd D (foot X) ev (QF D ev X (.inl cls) X' rm) X cs sl pc L st := by
  obtain ⟨p, l, e9, R, s, m, args, below, meth, c9⟩ := ev
  intro H locs ls hR hA hS hl
  have hRR : R = rm := B.2.2.2.2.2.2.2.1
  subst hRR
  have hAK := B.2.2.2.2.1
  obtain ⟨sa, hsa⟩ := hAK.2.2.2.1 _ hstr
  refine vx_throwS (names := nmsX) (A := foot X) B.1 B.2.1 B.2.2.2.2.2.2.2.2.2.1 B.2.2.2.1 hT.1 hT.2.1 (hAK.w hk) (hAK.w hini) hsa (thr_at hT hAK) (fun w hw => ?_) B.2.2.2.2.2.2.2.2.2.2.1.1 B.2.2.2.2.2.2.2.2.2.2.1.2 hS hl.1 d0 d3 d4 d6 d9 (fun x hx => (ht x hx).elim) hfr (by rw [tW_sum]; exact hw) hcs hsl B.2.2.2.2.2.1 (fun t h1 h2 h3 => ⟨rfl, ⟨t.heap.size, hR.grown h3⟩, Nat.le_trans hS.1 h2, fun q g1 g2 => (h3 q (Nat.lt_of_lt_of_le g1 hS.1)).trans (hS.2.1 q g1 g2)⟩) hS.2.2 hcs hsl
  rcases List.mem_cons.mp hw with rfl | hw
  · rfl
  · rcases List.mem_cons.mp hw with rfl | hw
    · rfl
    · exact hT.2.2.2 w hw
theorem g_throwW {cls text : String} {ik is ic : Nat} {X' : Mem} (B : Amb D (foot X) ev RX11 nm cc nL ret rm) (ht : Tb0 ev) (hT : ThrOK cls ic) (hk : Cond.classLink RX11 ik cls ∈ gd) (hini : Cond.initialized cls ∈ gd) (hstr : (is, text) ∈ strW)
    (d0 : decode cc pc = .ok (.new ik, 3)) (d3 : decode cc (pc + 3) = .ok (.dup, 1)) (d4 : decode cc (pc + 4) = .ok (.ldc_w is, 3)) (d7 : decode cc (pc + 7) = .ok (.invokespecial ic, 3)) (d10 : decode cc (pc + 10) = .ok (.athrow, 1)) (hw : tW st + 82 ≤ rm.locals) (hfr : 5 < rm.frames) (hcs : cs + 1 ≤ rm.cells) (hsl : sl + 6 ≤ rm.slots) : Gd D (foot X) ev (QF D ev X (.inl cls) X' rm) X cs sl pc L st := by
  obtain ⟨p, l, e9, R, s, m, args, below, meth, c9⟩ := ev
  intro H locs ls hR hA hS hl
  have hRR : R = rm := B.2.2.2.2.2.2.2.1
  subst hRR
  have hAK := B.2.2.2.2.1
  obtain ⟨sa, hsa⟩ := hAK.2.2.2.1 _ hstr
  refine vx_throwSW (names := nmsX) (A := foot X) B.1 B.2.1 B.2.2.2.2.2.2.2.2.2.1 B.2.2.2.1 hT.1 hT.2.1 (hAK.w hk) (hAK.w hini) hsa (thr_at hT hAK) (fun w hw => ?_) B.2.2.2.2.2.2.2.2.2.2.1.1 B.2.2.2.2.2.2.2.2.2.2.1.2 hS hl.1 d0 d3 d4 d7 d10 (fun x hx => (ht x hx).elim) hfr (by rw [tW_sum]; exact hw) hcs hsl B.2.2.2.2.2.1 (fun t h1 h2 h3 => ⟨rfl, ⟨t.heap.size, hR.grown h3⟩, Nat.le_trans hS.1 h2, fun q g1 g2 => (h3 q (Nat.lt_of_lt_of_le g1 hS.1)).trans (hS.2.1 q g1 g2)⟩) hS.2.2 hcs hsl
  rcases List.mem_cons.mp hw with rfl | hw
  · rfl
  · rcases List.mem_cons.mp hw with rfl | hw
    · rfl
    · exact hT.2.2.2 w hw
end GT
