/-! THE LAW's OWN METHODS: the array 'out', what a wrapper leaves, a call of a wrapper -/
def oM (oa : Nat) (g : Nat → Int64) : Mem := (fun a => if a = oa then some (22, 1) else none, fun _ _ => 0, fun _ _ => none, fun _ _ => 0, fun a i => if a = oa then g i else 0, fun _ _ => none, 0)
def up0 (g : Nat → Int64) (w : Int64) : Nat → Int64 := fun i => if i = 0 then w else g i
theorem oM_K {oa : Nat} {g : Nat → Int64} : mK (oM oa g) oa = some (22, 1) := if_pos rfl
theorem apM_o {X : Mem} {oa : Nat} {g : Nat → Int64} (h : mK X oa = none) : apM X (oM oa g) := by
  intro a ha
  by_cases e : a = oa
  · rw [e]; exact h
  · exact absurd (if_neg e : mK (oM oa g) a = none) ha
theorem uM_sJ {X : Mem} {oa : Nat} {g : Nat → Int64} {w : Int64} (h : mK X oa = none) : sJ (uM X (oM oa g)) oa (0 : Int32).toNatClampNeg w = uM X (oM oa (up0 g w)) := by
  have e : up2 (aJ (uM X (oM oa g))) oa (0 : Int32).toNatClampNeg w = aJ (uM X (oM oa (up0 g w))) := by
    funext a i
    show (if a = oa ∧ i = (0 : Int32).toNatClampNeg then w else (if (mK X a).isSome then aJ X a else aJ (oM oa g) a) i) = (if (mK X a).isSome then aJ X a else aJ (oM oa (up0 g w)) a) i
    rw [show (0 : Int32).toNatClampNeg = 0 from by decide]
    by_cases ha : a = oa
    · subst ha
      rw [h]
      show (if a = a ∧ i = 0 then w else (if a = a then g i else 0)) = (if a = a then (if i = 0 then w else g i) else 0)
      rw [if_pos rfl, if_pos rfl]
      by_cases hi : i = 0
      · rw [if_pos ⟨rfl, hi⟩, if_pos hi]
      · rw [if_neg (fun q => hi q.2), if_neg hi]
    · rw [if_neg (fun q => ha q.1)]
      cases (mK X a).isSome
      · show (if a = oa then g i else 0) = (if a = oa then _ else 0)
        rw [if_neg ha, if_neg ha]
      · rfl
  unfold sJ
  rw [e]
  rfl
theorem vin01 : vp_in 0 1 := by unfold vp_in; decide
/-- what a wrapper leaves: 0 and the answer in out[0], or the place of the exception -/
def wPost (oa : Nat) (g : Nat → Int64) (ks : List String) (X : Mem) (r : String ⊕ (Int64 × Mem)) : Option TV → Mem → Prop := fun v X' => match r with
  | .inr (w, X1) => v = some (vI 0) ∧ X' = uM X1 (oM oa (up0 g w))
  | .inl E => ∃ (k z : Nat), ks[k]? = some E ∧ v = some (vI (nI (k + 1))) ∧ X' = zM (uM X (oM oa g)) z
def EvNc (ev : EV) : Prop := match ev with
  | (_, _, _, _, s, _, _, _, _, _) => NcAll s
def CalW (y : MethodName) (cc : ByteArray) (nL : Nat) (ret : Option FieldType) (hh : List (Nat × Nat × Nat × Nat)) (n : Nat) : Prop :=
  Cond.codeWith y cc nL ret hh ∈ gd ∧ Cond.initialized y.cls ∈ gd ∧ (y.cls ≠ "java/lang/invoke/MethodHandle" ∧ y.cls ≠ "java/lang/invoke/VarHandle") ∧ (parseMethodDescriptor y.desc).map (fun d => d.parameters.length) = some n
section GW
variable {D : DD} {A0 : Nat → Prop} {ev : EV} {Q : State → Prop} {X : Mem} {cs sl pc : Nat} {L : List (Nat × TV)} {st : List TV} {own nm : String} {cc : ByteArray} {nL : Nat} {ret : Option FieldType} {rm : Room}
variable {y : MethodName} {cc2 : ByteArray} {nL2 n index : Nat} {ret2 : Option FieldType} {rm2 : Room} {As : List TV} {hh : List (Nat × Nat × Nat × Nat)} {P : Option TV → Mem → Prop}
theorem g_callP (B : Amb D A0 ev own nm cc nL ret rm) (hnc : EvNc ev) (hc : CalW y cc2 nL2 ret2 hh n) (hl : Cond.methodLink own index y ∈ gd) (hi : Cond.static y ∈ gd)
    (hM : ∀ l, l.stackTraces = false → CtrP D l y cc2 nL2 ret2 hh rm2 As X P) (hn : As.length = n) (hw : tW st ≤ 8) (hr : rm2.frames + 1 ≤ rm.frames ∧ 8 + (nL2 + 11) + rm2.locals ≤ rm.locals) (hf : cs + rm2.cells ≤ rm.cells ∧ sl + rm2.slots ≤ rm.slots) (d : decode cc pc = .ok (.invokestatic index, 3))
    (k9 : ∀ (v : Option TV) (X' : Mem), P v X' → Gd D A0 ev Q X' (cs + rm2.cells) (sl + rm2.slots) (pc + 3) L (v.toList ++ st)) : Gd D A0 ev Q X cs sl pc L (As.reverse ++ st) := by
  obtain ⟨p, l, e9, R, s, m, args, below, meth, c9⟩ := ev
  intro H locs ls hR hA hS hl9
  have hRR : R = rm := B.2.2.2.2.2.2.2.1
  subst hRR
  rw [tS_rev']
  have hAK := B.2.2.2.2.1
  have hA0 := B.2.2.2.2.2.2.2.2.1
  have hAB : ∀ q, foot X q → A0 q := fun q h => h.elim (hA q) (fun h => hA0 q (Nat.le_trans hS.1 (by rw [← hR.2]; exact h)))
  have hbl : FrameBlind (pPc D As X) := fun a U g mk h => ⟨cPc_blind _ _ _ _ h.1, NcAll.warm (State.WarmedH.refl U) h.2⟩
  have cw : vx_CSW R s args own index y cc2 nL2 ret2 hh [Cond.codeWith y cc2 nL2 ret2 hh] rm2 rm2.cells rm2.slots n := by
    refine ⟨⟨rfl, rfl, hr.1, hr.2, fun w hw a' U hW => ?_, List.mem_cons_self⟩, hAK.w hc.1, hAK.w hc.2.1, hc.2.2.1, fun sig h => ?_, hAK.w hl, hAK.w hi⟩
    · rw [List.mem_singleton.mp hw]
      exact word_at hW (good_of_word (List.mem_filter.mp hc.1).2) (hAK.w (a := args) hc.1)
    · have h2 := hc.2.2.2
      rw [h] at h2
      exact (Option.some.inj h2).symm
  have run := vx_runSW (As := tS As) (rest := tS st) (cells := cs) (slots := sl) (locs := locs) (H := H) (g := F0 m pc ls ((tS As).reverse ++ tS st)) (below := below) (e := e9) (meth := meth) ⟨B.1, B.2.1, B.2.2.1, B.2.2.2.1, fun w hw => hAK.w hw⟩ (hM l B.2.2.2.2.2.2.2.2.2.1) cw ⟨hbl, fun U hU hW => ⟨callP hA0 hAK B.2.2.2.2.2.2.2.2.2.2.1 hR hA hS As U hU hW, NcAll.warm hW hnc⟩⟩ rfl (by simpa [tS] using hn) (hl9.1.trans B.2.2.1) rfl (lv_room (m := m) (pc := pc) (ls := ls) (rest := []) (by rw [tW_sum]; exact hw)) d hf
  intro T hT X9
  obtain ⟨v9, st₀, t, T', L9, h0, X8, hL, e1, e2, ⟨v', X', hP, hv9, hp1, hp2, hp3⟩, st'⟩ := run T hT X9
  cases hv9
  obtain ⟨-, -, k3⟩ := vx_keep h0 e1 hS (fun q _ h => hAB q h) hAB hL hp3
  have k8 := k9 v' X' hP T'.heap (locs ++ L9) ls (by rw [e1]; exact hp1) (fun a h => hAB a (hp2 a h)) k3 hl9
  rw [← tS_out] at k8
  obtain ⟨t2, a1, b1⟩ := k8 T' rfl X8
  exact ⟨t2, st' t2 a1, b1⟩
end GW
