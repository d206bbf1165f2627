/-! THE LAW's ENTRY: the class's object, three arrays, then the loop -/
def alP (P : LwP) (N : Nat) : LwP := (zM P.1 (mZ P.1 + 1), nA (zM P.2 (mZ P.1)) 0 N)
theorem alP_f {P : LwP} {N : Nat} (h : FreshM P.1) : FreshM (alP P N).1 := h.zm
theorem alP_a {P : LwP} {N : Nat} (h : FreshM P.1) (hap : apM P.1 P.2) : apM (alP P N).1 (alP P N).2 := by
  intro q hq
  show mK P.1 q = none
  by_cases e : q = mZ P.1
  · rw [e]
    cases e9 : mK P.1 (mZ P.1) with
    | none => rfl
    | some v => exact absurd (h (mZ P.1) (by rw [e9]; exact fun z => nomatch z)) (Nat.lt_irrefl _)
  · refine hap q (fun z => hq ?_)
    show (if q = mZ P.1 then some (20 + 0, N) else mK P.2 q) = none
    rw [if_neg e, z]
theorem alP_l {P : LwP} {N : Nat} (h : ∀ a, mK P.2 a ≠ none → a < mZ P.1) : ∀ a, mK (alP P N).2 a ≠ none → a < mZ (alP P N).1 := by
  intro q hq
  show q < mZ P.1 + 1
  by_cases e : q = mZ P.1
  · omega
  · have := h q (fun z => hq (by
      show (if q = mZ P.1 then some (20 + 0, N) else mK P.2 q) = none
      rw [if_neg e, z]))
    omega
theorem alP_k {P : LwP} {N q : Nat} (h : q ≠ mZ P.1) : mK (alP P N).2 q = mK P.2 q := if_neg h
theorem alP_s {P : LwP} {N : Nat} : mK (alP P N).2 (mZ P.1) = some (20, N) := if_pos rfl
theorem alP_i {P : LwP} {N : Nat} (h : ∀ b i, aI P.2 b i = 0) : ∀ b i, aI (alP P N).2 b i = 0 := by
  intro b i
  show (if b = mZ P.1 then (0 : Int32) else aI P.2 b i) = 0
  split
  · rfl
  · exact h b i
theorem kxL_21 : Cond.classLink RL 21 (clC 11) ∈ gd := List.mem_filter.mpr ⟨List.mem_append_right _ (by decide +kernel), by decide +kernel⟩
theorem kinL11 : Cond.instantiable (clC 11) (fN 11) ∈ gd := List.mem_filter.mpr ⟨List.mem_append_right _ (by decide +kernel), by decide +kernel⟩
/-- what the law begins with -/
def P0L (X1 : Mem) : LwP := alP (alP (alP (X1, E0 0) 8) 60) 42
def PsL (X1 : Mem) : LwP := ((P0L X1).1, sI (sI (P0L X1).2 (mZ X1) 6 20) (mZ X1) 7 20)
theorem P0L_ok {X1 : Mem} (hf : FreshM X1) : LOK (P0L X1) (mZ X1) (mZ X1 + 1) (mZ X1 + 2) := by
  have a0 : apM X1 (E0 0) := fun a h => absurd rfl h
  have l0 : ∀ a, mK (E0 0) a ≠ none → a < mZ X1 := fun a h => absurd rfl h
  refine ⟨?_, ?_, alP_s, alP_a (alP_f (alP_f hf)) (alP_a (alP_f hf) (alP_a hf a0)), alP_l (alP_l (alP_l (P := (X1, E0 0)) l0))⟩
  · refine (alP_k (show mZ X1 ≠ mZ X1 + 1 + 1 by omega)).trans ((alP_k (show mZ X1 ≠ mZ X1 + 1 by omega)).trans ?_)
    exact alP_s (P := (X1, E0 0))
  · refine (alP_k (show mZ X1 + 1 ≠ mZ X1 + 1 + 1 by omega)).trans ?_
    exact alP_s (P := alP (X1, E0 0) 8)
theorem P0L_i {X1 : Mem} : ∀ b i, aI (P0L X1).2 b i = 0 := alP_i (alP_i (alP_i (P := (X1, E0 0)) (fun _ _ => rfl)))
