/-! THE SCRIPT's INTS: the law's draw -/
def rmL_draw : Room := { frames := 0, cells := 0, slots := 0, locals := 0 }
def drw (L : Nat) (xs : Nat → Int32) (k : Int32) : Int32 := if nI L ≤ k then (((104729 : Int32) * (k + (2 : Int32))) - ((104729 : Int32) * (k + (2 : Int32))) / (65521 : Int32) * (65521 : Int32)) else (xs k.toNatClampNeg &&& (2147483647 : Int32))
def drwPc (D : DD) (b Ls : Nat) (xs : Nat → Int32) (k : Int32) (X : Mem) : Array Value → State → Prop := fun v U => cPc D [vA (some b), vI k] X v U ∧ va_X b Ls xs U U.heap ∧ b < U.heap.size ∧ mK X b = none
section GDR
variable {D : DD} {A0 : Nat → Prop} {ev : EV} {Q : State → Prop} {X : Mem} {cs sl pc : Nat} {L : List (Nat × TV)} {st : List TV} {own nm : String} {cc : ByteArray} {nL : Nat} {ret : Option FieldType} {rm : Room}
theorem g_sldA {b Ls : Nat} {xs : Nat → Int32} {i w : Int32} (B : Amb D A0 ev own nm cc nL ret rm) (hs : ScrL ev b Ls xs) (hn : ¬ A0 b) (hin : vp_in i Ls) (he : xs i.toNatClampNeg = w) (d : decode cc pc = .ok (.iaload, 1)) (k9 : Gd D A0 ev Q X cs sl (pc + 1) L (vI w :: st)) : Gd D A0 ev Q X cs sl pc L (vI i :: vA (some b) :: st) := by
  obtain ⟨p, l, e9, R, s, m, args, below, meth, c⟩ := ev
  intro H locs ls hR hA hS hl
  subst he
  exact va_sld B.1 B.2.1 hs.1 hs.2 hn hS hin d (k9 H locs ls hR hA hS hl)
theorem g_slenA {b Ls : Nat} {xs : Nat → Int32} (B : Amb D A0 ev own nm cc nL ret rm) (hs : ScrL ev b Ls xs) (hn : ¬ A0 b) (d : decode cc pc = .ok (.arraylength, 1)) (k9 : Gd D A0 ev Q X cs sl (pc + 1) L (vI (nI Ls) :: st)) : Gd D A0 ev Q X cs sl pc L (vA (some b) :: st) := by
  obtain ⟨p, l, e9, R, s, m, args, below, meth, c⟩ := ev
  intro H locs ls hR hA hS hl
  exact va_slen B.1 B.2.1 hs.1 hs.2 hn hS d (k9 H locs ls hR hA hS hl)
end GDR
theorem met_draw {D : DD} {l : Launch} {b Ls : Nat} {xs : Nat → Int32} {k : Int32} {X : Mem} (hst : l.stackTraces = false) (hk : 0 ≤ k) (hL : Ls < 2 ^ 31) : Met l yL_draw [Cond.code yL_draw cL_draw 2 (some .int)] rmL_draw (drwPc D b Ls xs k X) (cQc D X (.inr (some (vI (drw Ls xs k)))) X) 0 0 (foot X) := by
  unfold Met
  refine MetFree.of_bodyS (code := cL_draw) (maxLocals := 2) (ret := some .int) (by decide +kernel) ?_ ?_
  · intro args s m h hn
    obtain ⟨meth, c, h1, h2, h3, h4, h5, h6, -, -⟩ := Cond.code_spec hn (atoms_spec (ws := [Cond.code yL_draw cL_draw 2 (some .int)]) h _ List.mem_cons_self)
    exact ⟨meth, c, h1, h2, h3, h4, h5, h6⟩
  · intro p e s m args below meth c s₁ B hml hP _
    obtain ⟨⟨rfl, hR, hAK, hz⟩, hX, hbs, hbn⟩ := hP
    have hh0 : s₁.heap = s.heap := by rw [B.state]; rfl
    have hown : s.vm.findClass yL_draw.cls = some m.cls := findClass_of_methodNamed B.named
    have hA0 : ∀ q : Nat, s.heap.size ≤ q → foot X q := fun q h => Or.inr (by rw [hR.2]; exact h)
    have hS : va_S (foot X) s.heap s.heap [] := va_S.rf
    have hl := lv_entry (tS [vA (some b), vI k]) (n := 2) (by rw [tW_sl]; exact Nat.le_of_ble_eq_true rfl)
    rw [← tA_args] at hl
    have hnf : ¬ foot X b := fun q => q.elim (fun z => z hbn) (fun z => by rw [hR.2] at z; omega)
    have k8 : W p l e rmL_draw s m (tS [vA (some b), vI k]).toArray below meth c s.heap [] 0 0 (MQ below (cQc D X (.inr (some (vI (drw Ls xs k)))) X) (tS [vA (some b), vI k]).toArray s 0 0 (foot X)) (entryFrame m (tS [vA (some b), vI k]).toArray 2) := by
      rw [lg_entry_eq]
      have Bm : Amb D (foot X) (p, l, e, rmL_draw, s, m, (tS [vA (some b), vI k]).toArray, below, meth, c) RL "draw" cL_draw 2 (some .int) rmL_draw := ⟨B.exec, B.bytes, hml, hown, hAK, B.notSynchronized, B.returns, rfl, hA0, hst, hz, (name_of_methodNamed B.named B.method).1⟩
      have hs : ScrL (p, l, e, rmL_draw, s, m, (tS [vA (some b), vI k]).toArray, below, meth, c) b Ls xs := ⟨hX, hbs⟩
      have hend : ∀ v : Int32, v = drw Ls xs k → ∀ L, Gd D (foot X) (p, l, e, rmL_draw, s, m, (tS [vA (some b), vI k]).toArray, below, meth, c) (MQ below (cQc D X (.inr (some (vI (drw Ls xs k)))) X) (tS [vA (some b), vI k]).toArray s 0 0 (foot X)) X 0 0 24 L [vI v] := by
        intro v hv L H locs ls hR hA hS hl
        subst hv
        exact W.iret Bm.1 Bm.2.1 Bm.2.2.2.2.2.2.1 (fun t ht hW => ⟨some (vI (drw Ls xs k)), rfl, rfl, cPo_end ht hR hA hS⟩) hS.2.2 dL_draw_24 Bm.2.2.2.2.2.1
      have key : Gd D (foot X) (p, l, e, rmL_draw, s, m, (tS [vA (some b), vI k]).toArray, below, meth, c) (MQ below (cQc D X (.inr (some (vI (drw Ls xs k)))) X) (tS [vA (some b), vI k]).toArray s 0 0 (foot X)) X 0 0 0 [(0, vA (some b)), (1, vI k)] [] := by
        refine g_iload_n (pc := 0) Bm dL_draw_0 1 rfl ?_
        refine g_aload_n (pc := 1) Bm dL_draw_1 0 rfl ?_
        refine g_slenA (pc := 2) Bm hs hnf dL_draw_2 ?_
        refine g_icmp_ge (pc := 3) (tgt := 15) Bm dL_draw_3 (by decide) (fun c3 => ?_) (fun c3 => ?_)
        · refine g_ldc (pc := 15) (v := (104729 : Int32)) Bm kkL_8 dL_draw_15 ?_
          refine g_iload_n (pc := 17) Bm dL_draw_17 1 rfl ?_
          refine g_iconst (pc := 18) Bm dL_draw_18 (2 : Int32) (by decide) ?_
          refine g_iadd (pc := 19) Bm dL_draw_19 ?_
          refine g_imul (pc := 20) Bm dL_draw_20 ?_
          refine g_ldc (pc := 21) (v := (65521 : Int32)) Bm kkL_9 dL_draw_21 ?_
          refine g_irem (pc := 23) Bm dL_draw_23 (by decide) ?_
          exact hend _ (if_pos c3).symm _
        · have hin : vp_in k Ls := by
            obtain ⟨j, hj, rfl⟩ := nI_of (fun q => Int32.lt_irrefl (Int32.lt_of_lt_of_le q hk))
            exact vp_in_nI ((nI_ltI (by omega) (by omega)).mp (Int32.not_le.mp c3)) hL
          refine g_aload_n (pc := 6) Bm dL_draw_6 0 rfl ?_
          refine g_iload_n (pc := 7) Bm dL_draw_7 1 rfl ?_
          refine g_sldA (pc := 8) Bm hs hnf hin rfl dL_draw_8 ?_
          refine g_ldc (pc := 9) (v := (2147483647 : Int32)) Bm kkL_7 dL_draw_9 ?_
          refine g_iand (pc := 11) Bm dL_draw_11 ?_
          refine g_goto (pc := 12) (tgt := 24) Bm dL_draw_12 (by decide) ?_
          exact hend _ (if_neg c3).symm _
      exact key s.heap [] _ hR (fun a h => Or.inl h) hS (by rw [hml]; exact hl)
    obtain ⟨t, a1, o, b1, b2, b3⟩ := k8 s₁ hh0 (Stand.of_body B)
    exact ⟨t, o, a1, b1, b2, b3.1, b3.2⟩
section GD2
variable {D : DD} {ev : EV} {Q : State → Prop} {X : Mem} {cs sl pc : Nat} {L : List (Nat × TV)} {st st9 : List TV} {own nm : String} {cc : ByteArray} {nL : Nat} {ret : Option FieldType} {rm : Room}
theorem gs_draw {b Ls index : Nat} {xs : Nat → Int32} {k w : Int32} (B : Amb D (A0L ev) ev own nm cc nL ret rm) (hs : ScrL ev b Ls xs) (hL : Ls < 2 ^ 31) (hk : 0 ≤ k) (he : drw Ls xs k = w) (hc : CalOK yL_draw cL_draw 2 (some .int) 2) (hl : Cond.methodLink own index yL_draw ∈ gd) (hi : Cond.static yL_draw ∈ gd) (hw : tW st ≤ 8) (hr : rmL_draw.frames + 1 ≤ rm.frames ∧ 8 + (2 + 11) + rmL_draw.locals ≤ rm.locals) (hf : cs ≤ rm.cells ∧ sl ≤ rm.slots) (d : decode cc pc = .ok (.invokestatic index, 3)) (k9 : Gd D (A0L ev) ev Q X cs sl (pc + 3) L (vI w :: st)) : Gd D (A0L ev) ev Q X cs sl pc L (vI k :: vA (some b) :: st) := by
  subst he
  obtain ⟨p, l, e9, R, s, m, args, below, meth, c9⟩ := ev
  intro H locs ls hR hA hS hl9
  have hRR : R = rm := B.2.2.2.2.2.2.2.1
  subst hRR
  have hAK := B.2.2.2.2.1
  have hA0 := B.2.2.2.2.2.2.2.2.1
  have hb : b < s.heap.size := hs.2
  have hbn : mK X b = none := Classical.byContradiction fun q => by
    have h1 : s.heap.size ≤ b := hA b q
    omega
  have hbl : FrameBlind (drwPc D b Ls xs k X) := fun a U g mk h => ⟨cPc_blind _ _ _ _ h.1, va_X.moved (State.WarmedH.refl U).alike h.2.1, h.2.2⟩
  have hpre : ∀ U : State, U.heap = H → s.WarmedH U.vm → drwPc D b Ls xs k X (tS [vA (some b), vI k]).toArray U := fun U hU hW => by
    refine ⟨callP hA0 hAK B.2.2.2.2.2.2.2.2.2.2.1 hR hA hS _ U hU hW, ?_, ?_, hbn⟩
    · rw [hU]
      exact va_X.moved hW.alike (hs.1.kept (hS.2.1 b hb (fun q => by have h1 : s.heap.size ≤ b := q; omega)))
    · rw [hU]
      exact Nat.lt_of_lt_of_le hb hS.1
  have run := va_runS (args := args) (As := tS [vA (some b), vI k]) (rest := tS st) (cells := cs) (slots := sl) (locs := locs) (H := H) (g := F0 m pc ls ((tS [vA (some b), vI k]).reverse ++ tS st)) (below := below) (e := e9) (meth := meth) ⟨B.1, B.2.1, B.2.2.1, B.2.2.2.1, fun w hw => hAK.w hw⟩ (met_draw (D := D) (X := X) (xs := xs) B.2.2.2.2.2.2.2.2.2.1 hk hL) ⟨callB hAK hc hl hr, hAK.w hi⟩ ⟨hbl, hpre⟩ rfl rfl (hl9.1.trans B.2.2.1) rfl (lv_room (m := m) (pc := pc) (ls := ls) (rest := []) (by rw [tW_sum]; exact hw)) d ⟨hf.1, hf.2⟩
  refine callK (g := F0 m pc ls []) (Q := Q) (v := some (vI (drw Ls xs k))) (X' := X) hA0 hR.2 hA hS (rest := tS st) run (fun H1 locs1 h1 h2 h3 => ?_)
  exact k9 H1 locs1 ls h1 h2 h3 hl9
end GD2
