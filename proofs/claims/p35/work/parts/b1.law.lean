/-! THE LAW's OWN NUMBERS beside what the class holds -/
theorem nT_r {α β : Type} {a : α} {k : α → Option β} : nT (some (.inr a)) k = k a := rfl
theorem nTW_r {α β γ : Type} {a : α} {b : β} {k : α → β → Option γ} : nTW (some (.inr (a, b))) k = k a b := rfl
theorem inb_sI {Y : Mem} {a i b t : Nat} {v j : Int32} : inb (sI Y a i v) t b j = inb Y t b j := (Eq.refl _).trans (Eq.refl _)
theorem inb_sJ {Y : Mem} {a i b t : Nat} {v : Int64} {j : Int32} : inb (sJ Y a i v) t b j = inb Y t b j := (Eq.refl _).trans (Eq.refl _)
theorem yI_s {Y : Mem} {a i : Nat} {v : Int32} : aI (sI Y a i v) a = upN (aI Y a) i v := by
  funext j
  rw [aI_sI]
  show _ = if j = i then v else aI Y a j
  by_cases h : j = i
  · rw [if_pos ⟨rfl, h⟩, if_pos h]
  · rw [if_neg (fun q => h q.2), if_neg h]
theorem yI_o {Y : Mem} {a i b : Nat} {v : Int32} (h : b ≠ a) : aI (sI Y a i v) b = aI Y b := by
  funext j
  rw [aI_sI, if_neg (fun q => h q.1)]
theorem aI_sJ9 {Y : Mem} {a i b : Nat} {v : Int64} : aI (sJ Y a i v) b = aI Y b := (Eq.refl _).trans (Eq.refl _)
theorem apC_sI {α : Type} {X1 Y : Mem} {a i : Nat} {v : Int32} {k : Option α} : apC ((X1, sI Y a i v) : LwP) k = apC ((X1, Y) : LwP) k := (Eq.refl _).trans (Eq.refl _)
theorem apC_sJ {α : Type} {X1 Y : Mem} {a i : Nat} {v : Int64} {k : Option α} : apC ((X1, sJ Y a i v) : LwP) k = apC ((X1, Y) : LwP) k := (Eq.refl _).trans (Eq.refl _)
def LOK (P : LwP) (ac ap aw : Nat) : Prop := mK P.2 ac = some (20, 8) ∧ mK P.2 ap = some (20, 60) ∧ mK P.2 aw = some (20, 42) ∧ apM P.1 P.2 ∧ ∀ a, mK P.2 a ≠ none → a < mZ P.1
section LOKs
variable {P : LwP} {ac ap aw : Nat} {X1 : Mem}
theorem LOK.cp (h : LOK P ac ap aw) : ac ≠ ap ∧ ac ≠ aw ∧ ap ≠ aw := by
  obtain ⟨h1, h2, h3, -⟩ := h
  refine ⟨fun q => ?_, fun q => ?_, fun q => ?_⟩
  · rw [q, h2] at h1; cases h1
  · rw [q, h3] at h1; cases h1
  · rw [q, h3] at h2; cases h2
theorem LOK.c (h : LOK P ac ap aw) (i : Nat) (hi : i < 8) : inb P.2 0 ac (nI i) = true := inb_of (t := 0) h.1 hi (by omega)
theorem LOK.p (h : LOK P ac ap aw) (i : Nat) (hi : i < 60) : inb P.2 0 ap (nI i) = true := inb_of (t := 0) h.2.1 hi (by omega)
theorem LOK.w (h : LOK P ac ap aw) (i : Nat) (hi : i < 42) : inb P.2 0 aw (nI i) = true := inb_of (t := 0) h.2.2.1 hi (by omega)
theorem LOK.st (h : LOK P ac ap aw) (a i : Nat) (v : Int32) : LOK (P.1, sI P.2 a i v) ac ap aw := h
theorem LOK.cl (h : LOK P ac ap aw) (k : Keeps9 P.1 X1) : LOK (X1, P.2) ac ap aw := by
  obtain ⟨h1, h2, h3, h4, h5⟩ := h
  refine ⟨h1, h2, h3, fun a ha => ?_, fun a ha => Nat.lt_of_lt_of_le (h5 a ha) k.1⟩
  rw [k.2 a (h5 a ha)]
  exact h4 a ha
end LOKs
/-! literals -/
theorem l0 : (0 : Int32) = nI 0 := rfl
theorem l1 : (1 : Int32) = nI 1 := rfl
theorem l2 : (2 : Int32) = nI 2 := rfl
theorem l3 : (3 : Int32) = nI 3 := rfl
theorem l4 : (4 : Int32) = nI 4 := rfl
theorem l5 : (5 : Int32) = nI 5 := rfl
theorem l6 : (6 : Int32) = nI 6 := rfl
theorem l7 : (7 : Int32) = nI 7 := rfl
theorem l8 : (8 : Int32) = nI 8 := rfl
theorem l9 : (9 : Int32) = nI 9 := rfl
theorem l10 : (10 : Int32) = nI 10 := rfl
theorem l16 : (16 : Int32) = nI 16 := rfl
theorem l20 : (20 : Int32) = nI 20 := rfl
theorem l30 : (30 : Int32) = nI 30 := rfl
theorem l40 : (40 : Int32) = nI 40 := rfl
theorem cl0 : (0 : Int32).toNatClampNeg = 0 := by decide
theorem cl1 : (1 : Int32).toNatClampNeg = 1 := by decide
theorem cl2 : (2 : Int32).toNatClampNeg = 2 := by decide
theorem cl3 : (3 : Int32).toNatClampNeg = 3 := by decide
theorem cl4 : (4 : Int32).toNatClampNeg = 4 := by decide
theorem cl5 : (5 : Int32).toNatClampNeg = 5 := by decide
theorem cl6 : (6 : Int32).toNatClampNeg = 6 := by decide
theorem cl7 : (7 : Int32).toNatClampNeg = 7 := by decide
section CRD
variable {P : LwP} {ac ap aw : Nat}
theorem LOK.c0 (h : LOK P ac ap aw) : inb P.2 0 ac (0 : Int32) = true := h.c 0 (by omega)
theorem LOK.c1 (h : LOK P ac ap aw) : inb P.2 0 ac (1 : Int32) = true := h.c 1 (by omega)
theorem LOK.c2 (h : LOK P ac ap aw) : inb P.2 0 ac (2 : Int32) = true := h.c 2 (by omega)
theorem LOK.c3 (h : LOK P ac ap aw) : inb P.2 0 ac (3 : Int32) = true := h.c 3 (by omega)
theorem LOK.c4 (h : LOK P ac ap aw) : inb P.2 0 ac (4 : Int32) = true := h.c 4 (by omega)
theorem LOK.c5 (h : LOK P ac ap aw) : inb P.2 0 ac (5 : Int32) = true := h.c 5 (by omega)
theorem LOK.c6 (h : LOK P ac ap aw) : inb P.2 0 ac (6 : Int32) = true := h.c 6 (by omega)
theorem LOK.c7 (h : LOK P ac ap aw) : inb P.2 0 ac (7 : Int32) = true := h.c 7 (by omega)
end CRD
theorem upN_if {α : Type} {f : Nat → α} {i j : Nat} {v : α} : upN f i v j = if j = i then v else f j := rfl
/-! what the law's rows hold -/
def LId (m : Nat) (K T : Nat → Int32) (n : Nat) (c : Nat → Int32) : Prop := c 0 = nI m ∧ c 1 = nI (br K n).length ∧ ∀ t, t < 4 → TF (bit1 (c 2) (nI t)) (WdP K T n t)
def LIn (np ne nw W H : Nat) (c : Nat → Int32) : Prop := c 3 = nI np ∧ c 4 = nI ne ∧ c 5 = nI nw ∧ c 6 = nI W ∧ c 7 = nI H ∧ np ≤ 10 ∧ ne ≤ 4 ∧ nw ≤ 10
def LIp (np : Nat) (G : Nat → Pg) (p : Nat → Int32) : Prop := ∀ q, q < np → p q = pgu (G q) ∧ (∃ u, u < 3 ∧ pgu (G q) = nI u) ∧ p (10 + q) = nI (pgn (G q)) ∧ p (20 + q) = nI (pga (G q)) ∧ p (30 + q) = nI (pgb (G q)) ∧ p (40 + q) = nI (pgc (G q) - pga (G q)) ∧ p (50 + q) = nI (pgd (G q) - pgb (G q))
def LIw (ne : Nat) (ew : Nat → Nat) (eo es : Nat → Int32) (nw : Nat) (wp we : Nat → Nat) (wc : Nat → Int32) (w : Nat → Int32) : Prop := (∀ e, e < ne → w e = nI (ew e) ∧ w (4 + e) = eo e ∧ w (8 + e) = es e) ∧ (∀ j, j < nw → w (12 + j) = nI (wp j) ∧ w (22 + j) = nI (we j)) ∧ ∀ j, j < 10 → w (32 + j) = wc j
def LwS (x ac ap aw m : Nat) (K T V N : Nat → Int32) (n np : Nat) (G : Nat → Pg) (ne : Nat) (ew : Nat → Nat) (eo es : Nat → Int32) (nw : Nat) (wp we : Nat → Nat) (wc : Nat → Int32) (wo : Nat → Option Nat) (W H : Nat) (P : LwP) : Prop := StX x K T V N n np G ne ew eo es nw wp we wc wo W H P.1 ∧ RelP K T V N n np G ne ew nw wp we wc wo W H ∧ LOK P ac ap aw ∧ LId m K T n (aI P.2 ac) ∧ LIn np ne nw W H (aI P.2 ac) ∧ LIp np G (aI P.2 ap) ∧ LIw ne ew eo es nw wp we wc (aI P.2 aw)
theorem LId.op {m : Nat} {K T : Nat → Int32} {n : Nat} {c c' : Nat → Int32} {k t : Int32} (h : LId m K T n c) (e0 : c' 0 = nI m) (e1 : c' 1 = nI (opn (br K n).length k)) (e2 : c' 2 = c 2) (h6 : k ≠ 6) : LId m (upN K n k) (upN T n t) (n + 1) c' := by
  refine ⟨e0, by rw [br_opn]; exact e1, fun w hw => ?_⟩
  rw [e2]
  exact (h.2.2 w hw).cg ⟨fun q => WdP_up.mpr (Or.inl q), fun q => (WdP_up.mp q).elim id (fun z => absurd z.1 h6)⟩
theorem LId.opw {m : Nat} {K T : Nat → Int32} {n : Nat} {c c' : Nat → Int32} {tj : Nat} (h : LId m K T n c) (ht : tj < 4) (e0 : c' 0 = nI m) (e1 : c' 1 = nI (opn (br K n).length 6)) (e2 : c' 2 = c 2 ||| ((1 : Int32) <<< (nI tj &&& 31))) : LId m (upN K n 6) (upN T n (nI tj)) (n + 1) c' := by
  refine ⟨e0, by rw [br_opn]; exact e1, fun w hw => ?_⟩
  rw [e2, bit_or (by omega) (by omega)]
  by_cases e : w = tj
  · rw [if_pos e]
    exact Or.inl ⟨rfl, WdP_up.mpr (Or.inr ⟨rfl, by rw [e]⟩)⟩
  · rw [if_neg e]
    exact (h.2.2 w hw).cg ⟨fun q => WdP_up.mpr (Or.inl q), fun q => (WdP_up.mp q).elim id (fun z => absurd ((nI_eq (by omega) (by omega)).mp z.2).symm e)⟩
theorem LIn.cg {np ne nw W H : Nat} {c c' : Nat → Int32} (h : LIn np ne nw W H c) (e : ∀ i, 3 ≤ i → i < 8 → c' i = c i) : LIn np ne nw W H c' := by
  unfold LIn
  rw [e 3 (by omega) (by omega), e 4 (by omega) (by omega), e 5 (by omega) (by omega), e 6 (by omega) (by omega), e 7 (by omega) (by omega)]
  exact h
theorem opn_5 (b : Nat) : opn b 5 = b + 1 := if_pos (Or.inl rfl)
theorem opn_6 (b : Nat) : opn b 6 = b + 1 := if_pos (Or.inr rfl)
theorem opn_8 (b : Nat) : opn b 8 = b - 1 := by
  unfold opn
  rw [if_neg (by decide), if_pos rfl]
theorem opn_o {b : Nat} {k : Int32} (h5 : k ≠ 5) (h6 : k ≠ 6) (h8 : k ≠ 8) : opn b k = b := by
  unfold opn
  rw [if_neg (fun q => q.elim h5 h6), if_neg h8]
