/-! THE LAW: what its body knows of the script; memories side by side -/
def Keeps9 (X X1 : Mem) : Prop := mZ X ≤ mZ X1 ∧ (∀ a, a < mZ X → mK X1 a = mK X a)
def FreshM (X : Mem) : Prop := ∀ a, mK X a ≠ none → a < mZ X
def A0L (ev : EV) : Nat → Prop := match ev with
  | (_, _, _, _, s, _, _, _, _, _) => fun q => s.heap.size ≤ q
def ScrL (ev : EV) (b L : Nat) (xs : Nat → Int32) : Prop := match ev with
  | (_, _, _, _, s, _, _, _, _, _) => va_X b L xs s s.heap ∧ b < s.heap.size
def E0 (z : Nat) : Mem := (fun _ => none, fun _ _ => 0, fun _ _ => none, fun _ _ => 0, fun _ _ => 0, fun _ _ => none, z)
section GL
variable {D : DD} {A0 : Nat → Prop} {ev : EV} {Q : State → Prop} {X : Mem} {cs sl pc : Nat} {L : List (Nat × TV)} {st : List TV} {own nm : String} {cc : ByteArray} {nL : Nat} {ret : Option FieldType} {rm : Room}
theorem g_mem {X1 : Mem} (hi : ∀ H, RepM D X H → RepM D X1 H) (hd : ∀ a, mK X1 a ≠ none → mK X a ≠ none) (k : Gd D A0 ev Q X1 cs sl pc L st) : Gd D A0 ev Q X cs sl pc L st := by
  obtain ⟨p, l, e9, R, s, m, args, below, meth, c⟩ := ev
  exact fun H locs ls hR hA hS hl => k H locs ls (hi H hR) (fun a h => hA a (hd a h)) hS hl
theorem g_dom (k : (∀ a, mK X a ≠ none → a < mZ X) → Gd D A0 ev Q X cs sl pc L st) : Gd D A0 ev Q X cs sl pc L st := by
  obtain ⟨p, l, e9, R, s, m, args, below, meth, c⟩ := ev
  intro H locs ls hR hA hS hl
  exact k (fun a h => by rw [hR.2]; exact hR.lt h) H locs ls hR hA hS hl
theorem uM_dom {X Y : Mem} {a : Nat} : mK (uM X Y) a ≠ none ↔ mK X a ≠ none ∨ mK Y a ≠ none := by
  cases h : mK X a with
  | some k => rw [uM_Kl h]; exact ⟨fun _ => Or.inl (fun z => nomatch z), fun _ => fun z => nomatch z⟩
  | none => rw [uM_Kr h]; exact ⟨fun q => Or.inr q, fun q => q.elim (fun z => absurd rfl z) id⟩
theorem g_sld {b Ls : Nat} {xs : Nat → Int32} {i w : Int32} (B : Amb D (A0L ev) ev own nm cc nL ret rm) (hs : ScrL ev b Ls xs) (hin : vp_in i Ls) (he : xs i.toNatClampNeg = w) (d : decode cc pc = .ok (.iaload, 1)) (k9 : Gd D (A0L ev) ev Q X cs sl (pc + 1) L (vI w :: st)) : Gd D (A0L ev) ev Q X cs sl pc L (vI i :: vA (some b) :: st) := by
  obtain ⟨p, l, e9, R, s, m, args, below, meth, c⟩ := ev
  intro H locs ls hR hA hS hl
  subst he
  exact va_sld B.1 B.2.1 hs.1 hs.2 (fun q => by have h1 : s.heap.size ≤ b := q; have h2 := hs.2; omega) hS hin d (k9 H locs ls hR hA hS hl)
theorem g_slen {b Ls : Nat} {xs : Nat → Int32} (B : Amb D (A0L ev) ev own nm cc nL ret rm) (hs : ScrL ev b Ls xs) (d : decode cc pc = .ok (.arraylength, 1)) (k9 : Gd D (A0L ev) ev Q X cs sl (pc + 1) L (vI (nI Ls) :: st)) : Gd D (A0L ev) ev Q X cs sl pc L (vA (some b) :: st) := by
  obtain ⟨p, l, e9, R, s, m, args, below, meth, c⟩ := ev
  intro H locs ls hR hA hS hl
  exact va_slen B.1 B.2.1 hs.1 hs.2 (fun q => by have h1 : s.heap.size ≤ b := q; have h2 := hs.2; omega) hS d (k9 H locs ls hR hA hS hl)
end GL
theorem cmp_self (w : Int64) : lg_cmp w w = 0 := by
  have h : ¬ w < w := by
    rw [Int64.lt_iff_toInt_lt]
    omega
  simp [lg_cmp]
