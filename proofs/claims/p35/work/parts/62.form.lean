/-! FORMS: names and words numbered anew
-/
abbrev Nbs : Type := (Nat → Int32) × (Nat → Int32)
def cnN (f : Nat → Int32) : Nat := (if f 0 = -1 then 0 else 1) + (if f 1 = -1 then 0 else 1) + (if f 2 = -1 then 0 else 1) + (if f 3 = -1 then 0 else 1)
def anw (f : Nat → Int32) (t : Nat) : Int32 × (Nat → Int32) := if f t = -1 then (nI (cnN f), up1 f t (nI (cnN f))) else (f t, f)
def fmT (K T : Nat → Int32) (k : Nat) (s : Nbs) : Int32 × Nbs := if K k = 3 ∨ K k = 4 then ((anw s.1 (T k).toNatClampNeg).1, (anw s.1 (T k).toNatClampNeg).2, s.2) else if K k = 6 ∨ K k = 7 then ((anw s.2 (T k).toNatClampNeg).1, s.1, (anw s.2 (T k).toNatClampNeg).2) else (0, s)
def fmV (V N : Nat → Int32) (k : Nat) (s : Nbs) : Int32 × Nbs := if N k = 0 then (V k, s) else ((anw s.1 (V k).toNatClampNeg).1, (anw s.1 (V k).toNatClampNeg).2, s.2)
def fmS (K T V N : Nat → Int32) : Nat → Nbs
  | 0 => (fun _ => -1, fun _ => -1)
  | k + 1 => (fmV V N k (fmT K T k (fmS K T V N k)).2).2
def fTg (K T V N : Nat → Int32) (k : Nat) : Int32 := (fmT K T k (fmS K T V N k)).1
def fVa (K T V N : Nat → Int32) (k : Nat) : Int32 := (fmV V N k (fmT K T k (fmS K T V N k)).2).1
def NOK (f : Nat → Int32) : Prop := ∀ t, t < 4 → f t = -1 ∨ ∃ j, j < 4 ∧ f t = nI j
theorem cnN_lt {f : Nat → Int32} {t : Nat} (ht : t < 4) (h : f t = -1) : cnN f < 4 := by
  unfold cnN
  rcases (show t = 0 ∨ t = 1 ∨ t = 2 ∨ t = 3 by omega) with e | e | e | e <;> subst e <;> rw [if_pos h] <;> (repeat' split) <;> omega
theorem anw_ok {f : Nat → Int32} {t : Nat} (hf : NOK f) (ht : t < 4) : (∃ j, j < 4 ∧ (anw f t).1 = nI j) ∧ NOK (anw f t).2 := by
  unfold anw
  by_cases e : f t = -1
  · rw [if_pos e]
    have hc := cnN_lt ht e
    refine ⟨⟨_, hc, rfl⟩, fun z hz => ?_⟩
    show (if z = t then nI (cnN f) else f z) = -1 ∨ ∃ j, j < 4 ∧ (if z = t then nI (cnN f) else f z) = nI j
    by_cases e2 : z = t
    · rw [if_pos e2]
      exact Or.inr ⟨_, hc, rfl⟩
    · rw [if_neg e2]
      exact hf z hz
  · rw [if_neg e]
    rcases hf t ht with h | ⟨j, hj, h⟩
    · exact absurd h e
    · exact ⟨⟨j, hj, h⟩, hf⟩
theorem fmT_ok {K T : Nat → Int32} {k : Nat} {s : Nbs} (h1 : NOK s.1) (h2 : NOK s.2) (ht : 0 ≤ T k ∧ T k ≤ 3) : (∃ j, j < 4 ∧ (fmT K T k s).1 = nI j) ∧ NOK (fmT K T k s).2.1 ∧ NOK (fmT K T k s).2.2 := by
  have hlt := cl_lt4 ht.1 ht.2
  unfold fmT
  by_cases e : K k = 3 ∨ K k = 4
  · rw [if_pos e]
    obtain ⟨a, b⟩ := anw_ok h1 hlt
    exact ⟨a, b, h2⟩
  · rw [if_neg e]
    by_cases e2 : K k = 6 ∨ K k = 7
    · rw [if_pos e2]
      obtain ⟨a, b⟩ := anw_ok h2 hlt
      exact ⟨a, h1, b⟩
    · rw [if_neg e2]
      exact ⟨⟨0, by decide, rfl⟩, h1, h2⟩
theorem fmV_ok {V N : Nat → Int32} {k : Nat} {s : Nbs} (h1 : NOK s.1) (h2 : NOK s.2) (hv : (N k = 0 ∧ -99 ≤ V k ∧ V k ≤ 99) ∨ (N k = 1 ∧ 0 ≤ V k ∧ V k ≤ 3)) : (N k = 1 → ∃ j, j < 4 ∧ (fmV V N k s).1 = nI j) ∧ NOK (fmV V N k s).2.1 ∧ NOK (fmV V N k s).2.2 := by
  unfold fmV
  rcases hv with ⟨e, -, -⟩ | ⟨e, a, b⟩
  · rw [if_pos e]
    exact ⟨fun q => absurd (e.symm.trans q) (by decide), h1, h2⟩
  · rw [if_neg (by rw [e]; decide)]
    obtain ⟨c, d⟩ := anw_ok h1 (cl_lt4 a b)
    exact ⟨fun _ => c, d, h2⟩
theorem fmS_ok {K T V N : Nat → Int32} {n : Nat} (hP : VP K T V N n) : ∀ k, k ≤ n → NOK (fmS K T V N k).1 ∧ NOK (fmS K T V N k).2 := by
  intro k
  induction k with
  | zero => intro _; exact ⟨fun _ _ => Or.inl rfl, fun _ _ => Or.inl rfl⟩
  | succ k ih =>
    intro hk
    obtain ⟨a, b⟩ := ih (by omega)
    obtain ⟨-, c, d⟩ := fmT_ok (K := K) a b (hP.2.2.2.2.1 k (by omega))
    exact (fmV_ok c d (hP.2.2.2.2.2.1 k (by omega))).2
theorem fTg_ok {K T V N : Nat → Int32} {n k : Nat} (hP : VP K T V N n) (hk : k < n) : ∃ j, j < 4 ∧ fTg K T V N k = nI j := by
  obtain ⟨a, b⟩ := fmS_ok hP k (Nat.le_of_lt hk)
  exact (fmT_ok a b (hP.2.2.2.2.1 k hk)).1
theorem fVa_ok {K T V N : Nat → Int32} {n k : Nat} (hP : VP K T V N n) (hk : k < n) : (N k = 0 → fVa K T V N k = V k) ∧ (N k = 1 → ∃ j, j < 4 ∧ fVa K T V N k = nI j) := by
  obtain ⟨a, b⟩ := fmS_ok hP k (Nat.le_of_lt hk)
  obtain ⟨-, c, d⟩ := fmT_ok (K := K) a b (hP.2.2.2.2.1 k hk)
  exact ⟨fun e => congrArg Prod.fst (if_pos e), (fmV_ok c d (hP.2.2.2.2.2.1 k hk)).1⟩
