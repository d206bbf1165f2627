/-! THE JUDGEMENT Gd: from the typed memory X, at pc, with the typed locals L and the typed stack st, the walk comes to Q -/
def nkW : Cond → Bool
  | .fieldLinkNest .. => true
  | .methodLinkNest .. => true
  | _ => false
def ckW : Cond → Bool
  | .castable .. => true
  | _ => false
def dkW : Cond → Bool
  | .declares .. => true
  | _ => false
theorem nestW_k : nestW.all nkW = true := rfl
theorem castW_k : castW.all ckW = true := rfl
theorem declW_k : declW.all dkW = true := rfl
theorem AK.warm {D : DD} {s U : State} (hW : s.WarmedH U.vm) (h : AK D s) : AK D U := by
  obtain ⟨h1, h2, h3, h4, h5, h6, h7⟩ := h
  refine ⟨va_K.moved hW.alike h1, fun w hw a => word_at hW (good_of_word (List.mem_filter.mp hw).2) (h2 w hw a), fun w hw => ?_, fun q hq => ?_, fun w hw => ?_, fun w hw => ?_, fun t ht1 ht2 => ?_⟩
  · have hk := List.all_eq_true.mp nestW_k w hw
    have hz := h3 w hw
    cases w <;> first | exact va_Nw.warmF hW hz | exact va_Nw.warmM hW hz | exact absurd hk (by simp [nkW])
  · obtain ⟨sa, h⟩ := h4 q hq
    exact ⟨sa, vk_R.warm hW h⟩
  · have hk := List.all_eq_true.mp castW_k w hw
    have hz := h5 w hw
    cases w <;> first | exact va_Nw.warmC hW hz | exact absurd hk (by simp [ckW])
  · have hk := List.all_eq_true.mp declW_k w hw
    have hz := h6 w hw
    cases w <;> first | exact va_Nw.warmD hW hz | exact absurd hk (by simp [dkW])
  · obtain ⟨C, e1, e2⟩ := h7 t ht1 ht2
    exact ⟨C, e1, va_AO.moved hW.alike e2⟩
theorem AK.w {D : DD} {s : State} (h : AK D s) {w : Cond} (hw : w ∈ gd) {a : Array Value} : w.before a s = true := h.2.1 w hw a
abbrev EV : Type := Program × Launch × Env × Room × State × MethodId × Array Value × List Frame × Method × Code
def zU (A : Nat → Prop) (s : State) (H : Heap) : Prop := vx_Zq Bundle.tN "UNASSIGNED_STACK" Bundle.steD A s H ∧ vx_Zq Bundle.tN "SUPPRESSED_SENTINEL" Bundle.listD A s H
/-- what a body knows of where it stands -/
def Amb (D : DD) (A0 : Nat → Prop) (ev : EV) (own nm : String) (cc : ByteArray) (nL : Nat) (ret : Option FieldType) (rm : Room) : Prop := match ev with
  | (p, l, _, R, s, m, _, _, meth, c) => p.tables.exec = Jvm.exec ∧ c.code = cc ∧ c.maxLocals = nL ∧ s.vm.findClass own = some m.cls ∧ AK D s ∧ meth.locks = false ∧ meth.sig.returnType = ret ∧ R = rm ∧ (∀ q : Nat, s.heap.size ≤ q → A0 q) ∧ l.stackTraces = false ∧ zU A0 s s.heap ∧ meth.name = nm
def Gd (D : DD) (A0 : Nat → Prop) (ev : EV) (Q : State → Prop) (X : Mem) (cs sl pc : Nat) (L : List (Nat × TV)) (st : List TV) : Prop := match ev with
  | (p, l, e, R, s, m, args, below, meth, c) => ∀ (H : Heap) (locs : List Loc) (ls : Array Slot), RepM D X H → (∀ a, mK X a ≠ none → A0 a) → va_S A0 s.heap H locs → lv_has ls c.maxLocals (tL L) → W p l e R s m args below meth c H locs cs sl Q (F0 m pc ls (tS st))
section GR
variable {D : DD} {A0 : Nat → Prop} {ev : EV} {Q : State → Prop} {X : Mem} {cs sl pc : Nat} {L : List (Nat × TV)} {st : List TV} {own nm : String} {cc : ByteArray} {nL : Nat} {ret : Option FieldType} {rm : Room}
theorem g_sub {L' : List (Nat × TV)} (ks : List Nat) (e : ks.filterMap (fun k => L[k]?) = L') (k : Gd D A0 ev Q X cs sl pc L' st) : Gd D A0 ev Q X cs sl pc L st := by
  obtain ⟨p, l, e9, R, s, m, args, below, meth, c⟩ := ev
  exact fun H locs ls hR hA hS hl => k H locs ls hR hA hS (tL_sub hl ks e)
theorem g_widen {cs' sl' : Nat} (h1 : cs ≤ cs') (h2 : sl ≤ sl') (k : Gd D A0 ev Q X cs' sl' pc L st) : Gd D A0 ev Q X cs sl pc L st := by
  obtain ⟨p, l, e9, R, s, m, args, below, meth, c⟩ := ev
  exact fun H locs ls hR hA hS hl => W.widen h1 h2 (k H locs ls hR hA hS hl)

theorem g_iconst {n : Int} (B : Amb D A0 ev own nm cc nL ret rm) (d : decode cc pc = .ok (.iconst n, 1)) (v : Int32) (hv : Int32.ofInt n = v) (k : Gd D A0 ev Q X cs sl (pc + 1) L (vI v :: st)) : Gd D A0 ev Q X cs sl pc L (st) := by
  obtain ⟨p, l, e9, R, s, m, args, below, meth, c⟩ := ev
  intro H locs ls hR hA hS hl
  exact lv_iconst B.1 B.2.1 d hv (k H locs ls hR hA hS hl)
theorem g_bipush {n : Int} (B : Amb D A0 ev own nm cc nL ret rm) (d : decode cc pc = .ok (.bipush n, 2)) (v : Int32) (hv : (Int8.ofInt n).toInt32 = v) (k : Gd D A0 ev Q X cs sl (pc + 2) L (vI v :: st)) : Gd D A0 ev Q X cs sl pc L (st) := by
  obtain ⟨p, l, e9, R, s, m, args, below, meth, c⟩ := ev
  intro H locs ls hR hA hS hl
  exact lv_bipush B.1 B.2.1 d hv (k H locs ls hR hA hS hl)
theorem g_sipush {n : Int} (B : Amb D A0 ev own nm cc nL ret rm) (d : decode cc pc = .ok (.sipush n, 3)) (v : Int32) (hv : (Int16.ofInt n).toInt32 = v) (k : Gd D A0 ev Q X cs sl (pc + 3) L (vI v :: st)) : Gd D A0 ev Q X cs sl pc L (st) := by
  obtain ⟨p, l, e9, R, s, m, args, below, meth, c⟩ := ev
  intro H locs ls hR hA hS hl
  exact lv_sipush B.1 B.2.1 d hv (k H locs ls hR hA hS hl)
theorem g_lconst {n : Fin 2} (B : Amb D A0 ev own nm cc nL ret rm) (d : decode cc pc = .ok (.lconst n, 1)) (v : Int64) (hv : Int64.ofNat n = v) (k : Gd D A0 ev Q X cs sl (pc + 1) L (vJ v :: st)) : Gd D A0 ev Q X cs sl pc L (st) := by
  obtain ⟨p, l, e9, R, s, m, args, below, meth, c⟩ := ev
  intro H locs ls hR hA hS hl
  exact lv_lconst B.1 B.2.1 d hv (k H locs ls hR hA hS hl)
theorem g_null (B : Amb D A0 ev own nm cc nL ret rm) (d : decode cc pc = .ok (.aconst_null, 1)) (k : Gd D A0 ev Q X cs sl (pc + 1) L (vA none :: st)) : Gd D A0 ev Q X cs sl pc L (st) := by
  obtain ⟨p, l, e9, R, s, m, args, below, meth, c⟩ := ev
  intro H locs ls hR hA hS hl
  exact lv_null B.1 B.2.1 d (k H locs ls hR hA hS hl)
theorem g_iload_n {kf : Fin 4} {x : Int32} (B : Amb D A0 ev own nm cc nL ret rm) (d : decode cc pc = .ok (.iload_n kf, 1)) (j : Nat) (hj : L[j]? = some (kf.val, vI x)) (k : Gd D A0 ev Q X cs sl (pc + 1) L (vI x :: st)) : Gd D A0 ev Q X cs sl pc L (st) := by
  obtain ⟨p, l, e9, R, s, m, args, below, meth, c⟩ := ev
  intro H locs ls hR hA hS hl
  exact lv_iload_n B.1 B.2.1 d rfl (lv_at hl j (tL_at hj)) (k H locs ls hR hA hS hl)
theorem g_iload {i : Nat} {x : Int32} (B : Amb D A0 ev own nm cc nL ret rm) (d : decode cc pc = .ok (.iload i, 2)) (j : Nat) (hj : L[j]? = some (i, vI x)) (k : Gd D A0 ev Q X cs sl (pc + 2) L (vI x :: st)) : Gd D A0 ev Q X cs sl pc L (st) := by
  obtain ⟨p, l, e9, R, s, m, args, below, meth, c⟩ := ev
  intro H locs ls hR hA hS hl
  exact lv_iload B.1 B.2.1 d (lv_at hl j (tL_at hj)) (k H locs ls hR hA hS hl)
theorem g_lload_n {kf : Fin 4} {x : Int64} (B : Amb D A0 ev own nm cc nL ret rm) (d : decode cc pc = .ok (.lload_n kf, 1)) (j : Nat) (hj : L[j]? = some (kf.val, vJ x)) (k : Gd D A0 ev Q X cs sl (pc + 1) L (vJ x :: st)) : Gd D A0 ev Q X cs sl pc L (st) := by
  obtain ⟨p, l, e9, R, s, m, args, below, meth, c⟩ := ev
  intro H locs ls hR hA hS hl
  exact lv_lload_n B.1 B.2.1 d rfl (lv_at hl j (tL_at hj)) (k H locs ls hR hA hS hl)
theorem g_lload {i : Nat} {x : Int64} (B : Amb D A0 ev own nm cc nL ret rm) (d : decode cc pc = .ok (.lload i, 2)) (j : Nat) (hj : L[j]? = some (i, vJ x)) (k : Gd D A0 ev Q X cs sl (pc + 2) L (vJ x :: st)) : Gd D A0 ev Q X cs sl pc L (st) := by
  obtain ⟨p, l, e9, R, s, m, args, below, meth, c⟩ := ev
  intro H locs ls hR hA hS hl
  exact lv_lload B.1 B.2.1 d (lv_at hl j (tL_at hj)) (k H locs ls hR hA hS hl)
theorem g_aload_n {kf : Fin 4} {r : Option Nat} (B : Amb D A0 ev own nm cc nL ret rm) (d : decode cc pc = .ok (.aload_n kf, 1)) (j : Nat) (hj : L[j]? = some (kf.val, vA r)) (k : Gd D A0 ev Q X cs sl (pc + 1) L (vA r :: st)) : Gd D A0 ev Q X cs sl pc L st := by
  obtain ⟨p, l, e9, R, s, m, args, below, meth, c⟩ := ev
  intro H locs ls hR hA hS hl
  have h9 := lv_at hl j (tL_at hj)
  cases r with
  | none => exact lv_aload_nN B.1 B.2.1 d rfl h9 (k H locs ls hR hA hS hl)
  | some a => exact lv_aload_n B.1 B.2.1 d rfl h9 (k H locs ls hR hA hS hl)
theorem g_aload {i : Nat} {r : Option Nat} (B : Amb D A0 ev own nm cc nL ret rm) (d : decode cc pc = .ok (.aload i, 2)) (j : Nat) (hj : L[j]? = some (i, vA r)) (k : Gd D A0 ev Q X cs sl (pc + 2) L (vA r :: st)) : Gd D A0 ev Q X cs sl pc L st := by
  obtain ⟨p, l, e9, R, s, m, args, below, meth, c⟩ := ev
  intro H locs ls hR hA hS hl
  have h9 := lv_at hl j (tL_at hj)
  cases r with
  | none => exact lv_aloadN B.1 B.2.1 d h9 (k H locs ls hR hA hS hl)
  | some a => exact lv_aload B.1 B.2.1 d h9 (k H locs ls hR hA hS hl)
theorem g_istore_n {kf : Fin 4} {x : Int32} {L' : List (Nat × TV)} (B : Amb D A0 ev own nm cc nL ret rm) (d : decode cc pc = .ok (.istore_n kf, 1)) (hn : kf.val < nL) (hL : (kf.val, vI x) :: L.filter (tk1 kf.val) = L') (k : Gd D A0 ev Q X cs sl (pc + 1) L' (st)) : Gd D A0 ev Q X cs sl pc L (vI x :: st) := by
  obtain ⟨p, l, e9, R, s, m, args, below, meth, c⟩ := ev
  intro H locs ls hR hA hS hl
  exact lv_istore_n B.1 B.2.1 d rfl hl (by rw [B.2.2.1]; exact hn) (tL_k1 hL) (fun ls' hl' => k H locs ls' hR hA hS hl')
theorem g_istore {i : Nat} {x : Int32} {L' : List (Nat × TV)} (B : Amb D A0 ev own nm cc nL ret rm) (d : decode cc pc = .ok (.istore i, 2)) (hn : i < nL) (hL : (i, vI x) :: L.filter (tk1 i) = L') (k : Gd D A0 ev Q X cs sl (pc + 2) L' (st)) : Gd D A0 ev Q X cs sl pc L (vI x :: st) := by
  obtain ⟨p, l, e9, R, s, m, args, below, meth, c⟩ := ev
  intro H locs ls hR hA hS hl
  exact lv_istore B.1 B.2.1 d hl (by rw [B.2.2.1]; exact hn) (tL_k1 hL) (fun ls' hl' => k H locs ls' hR hA hS hl')
theorem g_lstore_n {kf : Fin 4} {x : Int64} {L' : List (Nat × TV)} (B : Amb D A0 ev own nm cc nL ret rm) (d : decode cc pc = .ok (.lstore_n kf, 1)) (hn : kf.val + 1 < nL) (hL : (kf.val, vJ x) :: L.filter (tk2 kf.val) = L') (k : Gd D A0 ev Q X cs sl (pc + 1) L' (st)) : Gd D A0 ev Q X cs sl pc L (vJ x :: st) := by
  obtain ⟨p, l, e9, R, s, m, args, below, meth, c⟩ := ev
  intro H locs ls hR hA hS hl
  exact lv_lstore_n B.1 B.2.1 d rfl hl (by rw [B.2.2.1]; exact hn) (tL_k2 hL) (fun ls' hl' => k H locs ls' hR hA hS hl')
theorem g_lstore {i : Nat} {x : Int64} {L' : List (Nat × TV)} (B : Amb D A0 ev own nm cc nL ret rm) (d : decode cc pc = .ok (.lstore i, 2)) (hn : i + 1 < nL) (hL : (i, vJ x) :: L.filter (tk2 i) = L') (k : Gd D A0 ev Q X cs sl (pc + 2) L' (st)) : Gd D A0 ev Q X cs sl pc L (vJ x :: st) := by
  obtain ⟨p, l, e9, R, s, m, args, below, meth, c⟩ := ev
  intro H locs ls hR hA hS hl
  exact lv_lstore B.1 B.2.1 d hl (by rw [B.2.2.1]; exact hn) (tL_k2 hL) (fun ls' hl' => k H locs ls' hR hA hS hl')
theorem g_astore_n {kf : Fin 4} {r : Option Nat} {L' : List (Nat × TV)} (B : Amb D A0 ev own nm cc nL ret rm) (d : decode cc pc = .ok (.astore_n kf, 1)) (hn : kf.val < nL) (hL : (kf.val, vA r) :: L.filter (tk1 kf.val) = L') (k : Gd D A0 ev Q X cs sl (pc + 1) L' st) : Gd D A0 ev Q X cs sl pc L (vA r :: st) := by
  obtain ⟨p, l, e9, R, s, m, args, below, meth, c⟩ := ev
  intro H locs ls hR hA hS hl
  have h9 := tL_k1 hL
  cases r with
  | none => exact lv_astore_nN B.1 B.2.1 d rfl hl (by rw [B.2.2.1]; exact hn) h9 (fun ls' hl' => k H locs ls' hR hA hS hl')
  | some a => exact lv_astore_n B.1 B.2.1 d rfl hl (by rw [B.2.2.1]; exact hn) h9 (fun ls' hl' => k H locs ls' hR hA hS hl')
theorem g_astore {i : Nat} {r : Option Nat} {L' : List (Nat × TV)} (B : Amb D A0 ev own nm cc nL ret rm) (d : decode cc pc = .ok (.astore i, 2)) (hn : i < nL) (hL : (i, vA r) :: L.filter (tk1 i) = L') (k : Gd D A0 ev Q X cs sl (pc + 2) L' st) : Gd D A0 ev Q X cs sl pc L (vA r :: st) := by
  obtain ⟨p, l, e9, R, s, m, args, below, meth, c⟩ := ev
  intro H locs ls hR hA hS hl
  have h9 := tL_k1 hL
  cases r with
  | none => exact lv_astoreN B.1 B.2.1 d hl (by rw [B.2.2.1]; exact hn) h9 (fun ls' hl' => k H locs ls' hR hA hS hl')
  | some a => exact lv_astore B.1 B.2.1 d hl (by rw [B.2.2.1]; exact hn) h9 (fun ls' hl' => k H locs ls' hR hA hS hl')
theorem g_iinc {i : Nat} {n : Int} {x v : Int32} {L' : List (Nat × TV)} (B : Amb D A0 ev own nm cc nL ret rm) (d : decode cc pc = .ok (.iinc i n, 3)) (hn : i < nL) (j : Nat) (hj : L[j]? = some (i, vI x)) (hv : x + Int32.ofInt n = v) (hL : (i, vI v) :: L.filter (tk1 i) = L') (k : Gd D A0 ev Q X cs sl (pc + 3) L' (st)) : Gd D A0 ev Q X cs sl pc L (st) := by
  obtain ⟨p, l, e9, R, s, m, args, below, meth, c⟩ := ev
  intro H locs ls hR hA hS hl
  exact lv_iinc B.1 B.2.1 d hl (tL_at hj) hv (by rw [B.2.2.1]; exact hn) (tL_k1 hL) (fun ls' hl' => k H locs ls' hR hA hS hl')
theorem g_iadd {x y : Int32} (B : Amb D A0 ev own nm cc nL ret rm) (d : decode cc pc = .ok (.iadd, 1)) (k : Gd D A0 ev Q X cs sl (pc + 1) L (vI (x + y) :: st)) : Gd D A0 ev Q X cs sl pc L (vI y :: vI x :: st) := by
  obtain ⟨p, l, e9, R, s, m, args, below, meth, c⟩ := ev
  intro H locs ls hR hA hS hl
  exact lv_iadd B.1 B.2.1 d (k H locs ls hR hA hS hl)
theorem g_isub {x y : Int32} (B : Amb D A0 ev own nm cc nL ret rm) (d : decode cc pc = .ok (.isub, 1)) (k : Gd D A0 ev Q X cs sl (pc + 1) L (vI (x - y) :: st)) : Gd D A0 ev Q X cs sl pc L (vI y :: vI x :: st) := by
  obtain ⟨p, l, e9, R, s, m, args, below, meth, c⟩ := ev
  intro H locs ls hR hA hS hl
  exact lv_isub B.1 B.2.1 d (k H locs ls hR hA hS hl)
theorem g_imul {x y : Int32} (B : Amb D A0 ev own nm cc nL ret rm) (d : decode cc pc = .ok (.imul, 1)) (k : Gd D A0 ev Q X cs sl (pc + 1) L (vI (x * y) :: st)) : Gd D A0 ev Q X cs sl pc L (vI y :: vI x :: st) := by
  obtain ⟨p, l, e9, R, s, m, args, below, meth, c⟩ := ev
  intro H locs ls hR hA hS hl
  exact lv_imul B.1 B.2.1 d (k H locs ls hR hA hS hl)
theorem g_iand {x y : Int32} (B : Amb D A0 ev own nm cc nL ret rm) (d : decode cc pc = .ok (.iand, 1)) (k : Gd D A0 ev Q X cs sl (pc + 1) L (vI (x &&& y) :: st)) : Gd D A0 ev Q X cs sl pc L (vI y :: vI x :: st) := by
  obtain ⟨p, l, e9, R, s, m, args, below, meth, c⟩ := ev
  intro H locs ls hR hA hS hl
  exact lv_iand B.1 B.2.1 d (k H locs ls hR hA hS hl)
theorem g_ior {x y : Int32} (B : Amb D A0 ev own nm cc nL ret rm) (d : decode cc pc = .ok (.ior, 1)) (k : Gd D A0 ev Q X cs sl (pc + 1) L (vI (x ||| y) :: st)) : Gd D A0 ev Q X cs sl pc L (vI y :: vI x :: st) := by
  obtain ⟨p, l, e9, R, s, m, args, below, meth, c⟩ := ev
  intro H locs ls hR hA hS hl
  exact lv_ior B.1 B.2.1 d (k H locs ls hR hA hS hl)
theorem g_ixor {x y : Int32} (B : Amb D A0 ev own nm cc nL ret rm) (d : decode cc pc = .ok (.ixor, 1)) (k : Gd D A0 ev Q X cs sl (pc + 1) L (vI (x ^^^ y) :: st)) : Gd D A0 ev Q X cs sl pc L (vI y :: vI x :: st) := by
  obtain ⟨p, l, e9, R, s, m, args, below, meth, c⟩ := ev
  intro H locs ls hR hA hS hl
  exact lv_ixor B.1 B.2.1 d (k H locs ls hR hA hS hl)
theorem g_idiv {x y : Int32} (B : Amb D A0 ev own nm cc nL ret rm) (d : decode cc pc = .ok (.idiv, 1)) (hne : ¬ y = 0) (k : Gd D A0 ev Q X cs sl (pc + 1) L (vI (x / y) :: st)) : Gd D A0 ev Q X cs sl pc L (vI y :: vI x :: st) := by
  obtain ⟨p, l, e9, R, s, m, args, below, meth, c⟩ := ev
  intro H locs ls hR hA hS hl
  exact lv_idiv B.1 B.2.1 d hne (k H locs ls hR hA hS hl)
theorem g_irem {x y : Int32} (B : Amb D A0 ev own nm cc nL ret rm) (d : decode cc pc = .ok (.irem, 1)) (hne : ¬ y = 0) (k : Gd D A0 ev Q X cs sl (pc + 1) L (vI (x - x / y * y) :: st)) : Gd D A0 ev Q X cs sl pc L (vI y :: vI x :: st) := by
  obtain ⟨p, l, e9, R, s, m, args, below, meth, c⟩ := ev
  intro H locs ls hR hA hS hl
  exact lv_irem B.1 B.2.1 d hne (k H locs ls hR hA hS hl)
theorem g_lsub {x y : Int64} (B : Amb D A0 ev own nm cc nL ret rm) (d : decode cc pc = .ok (.lsub, 1)) (k : Gd D A0 ev Q X cs sl (pc + 1) L (vJ (x - y) :: st)) : Gd D A0 ev Q X cs sl pc L (vJ y :: vJ x :: st) := by
  obtain ⟨p, l, e9, R, s, m, args, below, meth, c⟩ := ev
  intro H locs ls hR hA hS hl
  exact lv_lsub B.1 B.2.1 d (k H locs ls hR hA hS hl)
theorem g_land {x y : Int64} (B : Amb D A0 ev own nm cc nL ret rm) (d : decode cc pc = .ok (.land, 1)) (k : Gd D A0 ev Q X cs sl (pc + 1) L (vJ (x &&& y) :: st)) : Gd D A0 ev Q X cs sl pc L (vJ y :: vJ x :: st) := by
  obtain ⟨p, l, e9, R, s, m, args, below, meth, c⟩ := ev
  intro H locs ls hR hA hS hl
  exact lv_land B.1 B.2.1 d (k H locs ls hR hA hS hl)
theorem g_lor {x y : Int64} (B : Amb D A0 ev own nm cc nL ret rm) (d : decode cc pc = .ok (.lor, 1)) (k : Gd D A0 ev Q X cs sl (pc + 1) L (vJ (x ||| y) :: st)) : Gd D A0 ev Q X cs sl pc L (vJ y :: vJ x :: st) := by
  obtain ⟨p, l, e9, R, s, m, args, below, meth, c⟩ := ev
  intro H locs ls hR hA hS hl
  exact lv_lor B.1 B.2.1 d (k H locs ls hR hA hS hl)
theorem g_ishl {x y : Int32} (B : Amb D A0 ev own nm cc nL ret rm) (d : decode cc pc = .ok (.ishl, 1)) (k : Gd D A0 ev Q X cs sl (pc + 1) L (vI (x <<< (y &&& 31)) :: st)) : Gd D A0 ev Q X cs sl pc L (vI y :: vI x :: st) := by
  obtain ⟨p, l, e9, R, s, m, args, below, meth, c⟩ := ev
  intro H locs ls hR hA hS hl
  exact lv_ishl B.1 B.2.1 d (k H locs ls hR hA hS hl)
theorem g_ishr {x y : Int32} (B : Amb D A0 ev own nm cc nL ret rm) (d : decode cc pc = .ok (.ishr, 1)) (k : Gd D A0 ev Q X cs sl (pc + 1) L (vI (x >>> (y &&& 31)) :: st)) : Gd D A0 ev Q X cs sl pc L (vI y :: vI x :: st) := by
  obtain ⟨p, l, e9, R, s, m, args, below, meth, c⟩ := ev
  intro H locs ls hR hA hS hl
  exact lv_ishr B.1 B.2.1 d (k H locs ls hR hA hS hl)
theorem g_lshl {x : Int64} {y : Int32} (B : Amb D A0 ev own nm cc nL ret rm) (d : decode cc pc = .ok (.lshl, 1)) (k : Gd D A0 ev Q X cs sl (pc + 1) L (vJ (x <<< (y.toInt64 &&& 63)) :: st)) : Gd D A0 ev Q X cs sl pc L (vI y :: vJ x :: st) := by
  obtain ⟨p, l, e9, R, s, m, args, below, meth, c⟩ := ev
  intro H locs ls hR hA hS hl
  exact lv_lshl B.1 B.2.1 d rfl (k H locs ls hR hA hS hl)
theorem g_lshr {x : Int64} {y : Int32} (B : Amb D A0 ev own nm cc nL ret rm) (d : decode cc pc = .ok (.lshr, 1)) (k : Gd D A0 ev Q X cs sl (pc + 1) L (vJ (x >>> (y.toInt64 &&& 63)) :: st)) : Gd D A0 ev Q X cs sl pc L (vI y :: vJ x :: st) := by
  obtain ⟨p, l, e9, R, s, m, args, below, meth, c⟩ := ev
  intro H locs ls hR hA hS hl
  exact lv_lshr B.1 B.2.1 d rfl (k H locs ls hR hA hS hl)
theorem g_i2l {x : Int32} (B : Amb D A0 ev own nm cc nL ret rm) (d : decode cc pc = .ok (.i2l, 1)) (k : Gd D A0 ev Q X cs sl (pc + 1) L (vJ x.toInt64 :: st)) : Gd D A0 ev Q X cs sl pc L (vI x :: st) := by
  obtain ⟨p, l, e9, R, s, m, args, below, meth, c⟩ := ev
  intro H locs ls hR hA hS hl
  exact lv_i2l B.1 B.2.1 d rfl (k H locs ls hR hA hS hl)
theorem g_lcmp {x y : Int64} (B : Amb D A0 ev own nm cc nL ret rm) (d : decode cc pc = .ok (.lcmp, 1)) (k : Gd D A0 ev Q X cs sl (pc + 1) L (vI (lg_cmp x y) :: st)) : Gd D A0 ev Q X cs sl pc L (vJ y :: vJ x :: st) := by
  obtain ⟨p, l, e9, R, s, m, args, below, meth, c⟩ := ev
  intro H locs ls hR hA hS hl
  exact W.lcmp B.1 B.2.1 d (k H locs ls hR hA hS hl)
theorem g_dup {v : TV} (B : Amb D A0 ev own nm cc nL ret rm) (d : decode cc pc = .ok (.dup, 1)) (hv : tJ v = false) (k : Gd D A0 ev Q X cs sl (pc + 1) L (v :: v :: st)) : Gd D A0 ev Q X cs sl pc L (v :: st) := by
  obtain ⟨p, l, e9, R, s, m, args, below, meth, c⟩ := ev
  intro H locs ls hR hA hS hl
  exact lv_dup B.1 B.2.1 d (by rw [tv_cat, hv]; rfl) (k H locs ls hR hA hS hl)
theorem g_pop {v : TV} (B : Amb D A0 ev own nm cc nL ret rm) (d : decode cc pc = .ok (.pop, 1)) (hv : tJ v = false) (k : Gd D A0 ev Q X cs sl (pc + 1) L (st)) : Gd D A0 ev Q X cs sl pc L (v :: st) := by
  obtain ⟨p, l, e9, R, s, m, args, below, meth, c⟩ := ev
  intro H locs ls hR hA hS hl
  exact lv_pop B.1 B.2.1 d (by rw [tv_cat, hv]; rfl) (k H locs ls hR hA hS hl)
theorem g_dup2 {v w : TV} (B : Amb D A0 ev own nm cc nL ret rm) (d : decode cc pc = .ok (.dup2, 1)) (hv : tJ v = false) (hw : tJ w = false) (k : Gd D A0 ev Q X cs sl (pc + 1) L (v :: w :: v :: w :: st)) : Gd D A0 ev Q X cs sl pc L (v :: w :: st) := by
  obtain ⟨p, l, e9, R, s, m, args, below, meth, c⟩ := ev
  intro H locs ls hR hA hS hl
  exact lv_dup2_11 B.1 B.2.1 d (by rw [tv_cat, hv]; rfl) (by rw [tv_cat, hw]; rfl) (k H locs ls hR hA hS hl)
theorem g_goto {off : Int} {tgt : Nat} (B : Amb D A0 ev own nm cc nL ret rm) (d : decode cc pc = .ok (.goto off, 3)) (ht : (pc : Int) + off = (tgt : Int)) (k : Gd D A0 ev Q X cs sl tgt L (st)) : Gd D A0 ev Q X cs sl pc L (st) := by
  obtain ⟨p, l, e9, R, s, m, args, below, meth, c⟩ := ev
  intro H locs ls hR hA hS hl
  exact lv_goto B.1 B.2.1 d ht (k H locs ls hR hA hS hl)
theorem g_if_eq {x : Int32} {off : Int} {tgt : Nat} (B : Amb D A0 ev own nm cc nL ret rm) (d : decode cc pc = .ok (.ifCond .eq off, 3)) (ht : (pc : Int) + off = (tgt : Int)) (kt : x = 0 → Gd D A0 ev Q X cs sl tgt L st) (kf : ¬ x = 0 → Gd D A0 ev Q X cs sl (pc + 3) L st) : Gd D A0 ev Q X cs sl pc L (vI x :: st) := by
  obtain ⟨p, l, e9, R, s, m, args, below, meth, c⟩ := ev
  intro H locs ls hR hA hS hl
  exact lv_if_eq B.1 B.2.1 d ht (fun c9 => kt c9 H locs ls hR hA hS hl) (fun c9 => kf c9 H locs ls hR hA hS hl)
theorem g_icmp_eq {x y : Int32} {off : Int} {tgt : Nat} (B : Amb D A0 ev own nm cc nL ret rm) (d : decode cc pc = .ok (.if_icmp .eq off, 3)) (ht : (pc : Int) + off = (tgt : Int)) (kt : x = y → Gd D A0 ev Q X cs sl tgt L st) (kf : ¬ x = y → Gd D A0 ev Q X cs sl (pc + 3) L st) : Gd D A0 ev Q X cs sl pc L (vI y :: vI x :: st) := by
  obtain ⟨p, l, e9, R, s, m, args, below, meth, c⟩ := ev
  intro H locs ls hR hA hS hl
  exact lv_icmp_eq B.1 B.2.1 d ht (fun c9 => kt c9 H locs ls hR hA hS hl) (fun c9 => kf c9 H locs ls hR hA hS hl)
theorem g_if_ne {x : Int32} {off : Int} {tgt : Nat} (B : Amb D A0 ev own nm cc nL ret rm) (d : decode cc pc = .ok (.ifCond .ne off, 3)) (ht : (pc : Int) + off = (tgt : Int)) (kt : ¬ x = 0 → Gd D A0 ev Q X cs sl tgt L st) (kf : x = 0 → Gd D A0 ev Q X cs sl (pc + 3) L st) : Gd D A0 ev Q X cs sl pc L (vI x :: st) := by
  obtain ⟨p, l, e9, R, s, m, args, below, meth, c⟩ := ev
  intro H locs ls hR hA hS hl
  exact lv_if_ne B.1 B.2.1 d ht (fun c9 => kt c9 H locs ls hR hA hS hl) (fun c9 => kf c9 H locs ls hR hA hS hl)
theorem g_icmp_ne {x y : Int32} {off : Int} {tgt : Nat} (B : Amb D A0 ev own nm cc nL ret rm) (d : decode cc pc = .ok (.if_icmp .ne off, 3)) (ht : (pc : Int) + off = (tgt : Int)) (kt : ¬ x = y → Gd D A0 ev Q X cs sl tgt L st) (kf : x = y → Gd D A0 ev Q X cs sl (pc + 3) L st) : Gd D A0 ev Q X cs sl pc L (vI y :: vI x :: st) := by
  obtain ⟨p, l, e9, R, s, m, args, below, meth, c⟩ := ev
  intro H locs ls hR hA hS hl
  exact lv_icmp_ne B.1 B.2.1 d ht (fun c9 => kt c9 H locs ls hR hA hS hl) (fun c9 => kf c9 H locs ls hR hA hS hl)
theorem g_if_lt {x : Int32} {off : Int} {tgt : Nat} (B : Amb D A0 ev own nm cc nL ret rm) (d : decode cc pc = .ok (.ifCond .lt off, 3)) (ht : (pc : Int) + off = (tgt : Int)) (kt : x < 0 → Gd D A0 ev Q X cs sl tgt L st) (kf : ¬ x < 0 → Gd D A0 ev Q X cs sl (pc + 3) L st) : Gd D A0 ev Q X cs sl pc L (vI x :: st) := by
  obtain ⟨p, l, e9, R, s, m, args, below, meth, c⟩ := ev
  intro H locs ls hR hA hS hl
  exact lv_if_lt B.1 B.2.1 d ht (fun c9 => kt c9 H locs ls hR hA hS hl) (fun c9 => kf c9 H locs ls hR hA hS hl)
theorem g_icmp_lt {x y : Int32} {off : Int} {tgt : Nat} (B : Amb D A0 ev own nm cc nL ret rm) (d : decode cc pc = .ok (.if_icmp .lt off, 3)) (ht : (pc : Int) + off = (tgt : Int)) (kt : x < y → Gd D A0 ev Q X cs sl tgt L st) (kf : ¬ x < y → Gd D A0 ev Q X cs sl (pc + 3) L st) : Gd D A0 ev Q X cs sl pc L (vI y :: vI x :: st) := by
  obtain ⟨p, l, e9, R, s, m, args, below, meth, c⟩ := ev
  intro H locs ls hR hA hS hl
  exact lv_icmp_lt B.1 B.2.1 d ht (fun c9 => kt c9 H locs ls hR hA hS hl) (fun c9 => kf c9 H locs ls hR hA hS hl)
theorem g_if_ge {x : Int32} {off : Int} {tgt : Nat} (B : Amb D A0 ev own nm cc nL ret rm) (d : decode cc pc = .ok (.ifCond .ge off, 3)) (ht : (pc : Int) + off = (tgt : Int)) (kt : 0 ≤ x → Gd D A0 ev Q X cs sl tgt L st) (kf : ¬ 0 ≤ x → Gd D A0 ev Q X cs sl (pc + 3) L st) : Gd D A0 ev Q X cs sl pc L (vI x :: st) := by
  obtain ⟨p, l, e9, R, s, m, args, below, meth, c⟩ := ev
  intro H locs ls hR hA hS hl
  exact lv_if_ge B.1 B.2.1 d ht (fun c9 => kt c9 H locs ls hR hA hS hl) (fun c9 => kf c9 H locs ls hR hA hS hl)
theorem g_icmp_ge {x y : Int32} {off : Int} {tgt : Nat} (B : Amb D A0 ev own nm cc nL ret rm) (d : decode cc pc = .ok (.if_icmp .ge off, 3)) (ht : (pc : Int) + off = (tgt : Int)) (kt : y ≤ x → Gd D A0 ev Q X cs sl tgt L st) (kf : ¬ y ≤ x → Gd D A0 ev Q X cs sl (pc + 3) L st) : Gd D A0 ev Q X cs sl pc L (vI y :: vI x :: st) := by
  obtain ⟨p, l, e9, R, s, m, args, below, meth, c⟩ := ev
  intro H locs ls hR hA hS hl
  exact lv_icmp_ge B.1 B.2.1 d ht (fun c9 => kt c9 H locs ls hR hA hS hl) (fun c9 => kf c9 H locs ls hR hA hS hl)
theorem g_if_gt {x : Int32} {off : Int} {tgt : Nat} (B : Amb D A0 ev own nm cc nL ret rm) (d : decode cc pc = .ok (.ifCond .gt off, 3)) (ht : (pc : Int) + off = (tgt : Int)) (kt : 0 < x → Gd D A0 ev Q X cs sl tgt L st) (kf : ¬ 0 < x → Gd D A0 ev Q X cs sl (pc + 3) L st) : Gd D A0 ev Q X cs sl pc L (vI x :: st) := by
  obtain ⟨p, l, e9, R, s, m, args, below, meth, c⟩ := ev
  intro H locs ls hR hA hS hl
  exact lv_if_gt B.1 B.2.1 d ht (fun c9 => kt c9 H locs ls hR hA hS hl) (fun c9 => kf c9 H locs ls hR hA hS hl)
theorem g_icmp_gt {x y : Int32} {off : Int} {tgt : Nat} (B : Amb D A0 ev own nm cc nL ret rm) (d : decode cc pc = .ok (.if_icmp .gt off, 3)) (ht : (pc : Int) + off = (tgt : Int)) (kt : y < x → Gd D A0 ev Q X cs sl tgt L st) (kf : ¬ y < x → Gd D A0 ev Q X cs sl (pc + 3) L st) : Gd D A0 ev Q X cs sl pc L (vI y :: vI x :: st) := by
  obtain ⟨p, l, e9, R, s, m, args, below, meth, c⟩ := ev
  intro H locs ls hR hA hS hl
  exact lv_icmp_gt B.1 B.2.1 d ht (fun c9 => kt c9 H locs ls hR hA hS hl) (fun c9 => kf c9 H locs ls hR hA hS hl)
theorem g_if_le {x : Int32} {off : Int} {tgt : Nat} (B : Amb D A0 ev own nm cc nL ret rm) (d : decode cc pc = .ok (.ifCond .le off, 3)) (ht : (pc : Int) + off = (tgt : Int)) (kt : x ≤ 0 → Gd D A0 ev Q X cs sl tgt L st) (kf : ¬ x ≤ 0 → Gd D A0 ev Q X cs sl (pc + 3) L st) : Gd D A0 ev Q X cs sl pc L (vI x :: st) := by
  obtain ⟨p, l, e9, R, s, m, args, below, meth, c⟩ := ev
  intro H locs ls hR hA hS hl
  exact lv_if_le B.1 B.2.1 d ht (fun c9 => kt c9 H locs ls hR hA hS hl) (fun c9 => kf c9 H locs ls hR hA hS hl)
theorem g_icmp_le {x y : Int32} {off : Int} {tgt : Nat} (B : Amb D A0 ev own nm cc nL ret rm) (d : decode cc pc = .ok (.if_icmp .le off, 3)) (ht : (pc : Int) + off = (tgt : Int)) (kt : x ≤ y → Gd D A0 ev Q X cs sl tgt L st) (kf : ¬ x ≤ y → Gd D A0 ev Q X cs sl (pc + 3) L st) : Gd D A0 ev Q X cs sl pc L (vI y :: vI x :: st) := by
  obtain ⟨p, l, e9, R, s, m, args, below, meth, c⟩ := ev
  intro H locs ls hR hA hS hl
  exact lv_icmp_le B.1 B.2.1 d ht (fun c9 => kt c9 H locs ls hR hA hS hl) (fun c9 => kf c9 H locs ls hR hA hS hl)
theorem g_acmp_ne {rx ry : Option Nat} {off : Int} {tgt : Nat} (B : Amb D A0 ev own nm cc nL ret rm) (d : decode cc pc = .ok (.if_acmp .ne off, 3)) (ht : (pc : Int) + off = (tgt : Int)) (kt : ¬ rx = ry → Gd D A0 ev Q X cs sl tgt L st) (kf : rx = ry → Gd D A0 ev Q X cs sl (pc + 3) L st) : Gd D A0 ev Q X cs sl pc L (vA ry :: vA rx :: st) := by
  obtain ⟨p, l, e9, R, s, m, args, below, meth, c⟩ := ev
  intro H locs ls hR hA hS hl
  exact lv_acmp_ne B.1 B.2.1 d ht (fun c9 => kt c9 H locs ls hR hA hS hl) (fun c9 => kf c9 H locs ls hR hA hS hl)
theorem g_acmp_eq {rx ry : Option Nat} {off : Int} {tgt : Nat} (B : Amb D A0 ev own nm cc nL ret rm) (d : decode cc pc = .ok (.if_acmp .eq off, 3)) (ht : (pc : Int) + off = (tgt : Int)) (kt : rx = ry → Gd D A0 ev Q X cs sl tgt L st) (kf : ¬ rx = ry → Gd D A0 ev Q X cs sl (pc + 3) L st) : Gd D A0 ev Q X cs sl pc L (vA ry :: vA rx :: st) := by
  obtain ⟨p, l, e9, R, s, m, args, below, meth, c⟩ := ev
  intro H locs ls hR hA hS hl
  exact lv_acmp_eq B.1 B.2.1 d ht (fun c9 => kt c9 H locs ls hR hA hS hl) (fun c9 => kf c9 H locs ls hR hA hS hl)
theorem g_ifnull {r : Option Nat} {off : Int} {tgt : Nat} (B : Amb D A0 ev own nm cc nL ret rm) (d : decode cc pc = .ok (.ifnull off, 3)) (ht : (pc : Int) + off = (tgt : Int)) (kt : r = none → Gd D A0 ev Q X cs sl tgt L st) (kf : ¬ r = none → Gd D A0 ev Q X cs sl (pc + 3) L st) : Gd D A0 ev Q X cs sl pc L (vA r :: st) := by
  obtain ⟨p, l, e9, R, s, m, args, below, meth, c⟩ := ev
  intro H locs ls hR hA hS hl
  cases r with
  | none => exact lv_ifnullN B.1 B.2.1 d ht (kt rfl H locs ls hR hA hS hl)
  | some a => exact lv_ifnull B.1 B.2.1 d (kf (fun z => nomatch z) H locs ls hR hA hS hl)
theorem g_ifnonnull {r : Option Nat} {off : Int} {tgt : Nat} (B : Amb D A0 ev own nm cc nL ret rm) (d : decode cc pc = .ok (.ifnonnull off, 3)) (ht : (pc : Int) + off = (tgt : Int)) (kt : ¬ r = none → Gd D A0 ev Q X cs sl tgt L st) (kf : r = none → Gd D A0 ev Q X cs sl (pc + 3) L st) : Gd D A0 ev Q X cs sl pc L (vA r :: st) := by
  obtain ⟨p, l, e9, R, s, m, args, below, meth, c⟩ := ev
  intro H locs ls hR hA hS hl
  cases r with
  | none => exact lv_ifnonnullN B.1 B.2.1 d (kf rfl H locs ls hR hA hS hl)
  | some a => exact lv_ifnonnull B.1 B.2.1 d ht (kt (fun z => nomatch z) H locs ls hR hA hS hl)
theorem g_tableIn {dflt lo hi : Int} {offs : Array Int} {len : Nat} {x : Int32} {off : Int} {tgt : Nat} (B : Amb D A0 ev own nm cc nL ret rm) (d : decode cc pc = .ok (.tableswitch dflt lo hi offs, len)) (h1 : ¬ x.toInt < lo) (h2 : ¬ hi < x.toInt) (ho : offs[(x.toInt - lo).toNat]? = some off) (ht : (pc : Int) + off = (tgt : Int)) (k : Gd D A0 ev Q X cs sl tgt L (st)) : Gd D A0 ev Q X cs sl pc L (vI x :: st) := by
  obtain ⟨p, l, e9, R, s, m, args, below, meth, c⟩ := ev
  intro H locs ls hR hA hS hl
  exact lv_tableIn B.1 B.2.1 d h1 h2 ho ht (k H locs ls hR hA hS hl)
theorem g_tableOut {dflt lo hi : Int} {offs : Array Int} {len : Nat} {x : Int32} {tgt : Nat} (B : Amb D A0 ev own nm cc nL ret rm) (d : decode cc pc = .ok (.tableswitch dflt lo hi offs, len)) (h : x.toInt < lo ∨ hi < x.toInt) (ht : (pc : Int) + dflt = (tgt : Int)) (k : Gd D A0 ev Q X cs sl tgt L (st)) : Gd D A0 ev Q X cs sl pc L (vI x :: st) := by
  obtain ⟨p, l, e9, R, s, m, args, below, meth, c⟩ := ev
  intro H locs ls hR hA hS hl
  exact lv_tableOut B.1 B.2.1 d h ht (k H locs ls hR hA hS hl)
theorem g_ldc {index : Nat} {v : Int32} (B : Amb D A0 ev own nm cc nL ret rm) (hc : Cond.constant own index v ∈ gd) (d : decode cc pc = .ok (.ldc index, 2)) (k : Gd D A0 ev Q X cs sl (pc + 2) L (vI v :: st)) : Gd D A0 ev Q X cs sl pc L (st) := by
  obtain ⟨p, l, e9, R, s, m, args, below, meth, c⟩ := ev
  intro H locs ls hR hA hS hl
  exact lv_ldc B.1 B.2.1 B.2.2.2.1 (B.2.2.2.2.1.w hc) d (k H locs ls hR hA hS hl)
end GR
