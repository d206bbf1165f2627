/-! BLOCKS: what is open ahead of a place; the end of a block -/
def br (K : Nat → Int32) : Nat → List Nat
  | 0 => []
  | i + 1 => if K i = 5 ∨ K i = 6 then i :: br K i else if K i = 8 then (br K i).tail else br K i
/-- a list of orders that can stand in a draft -/
def VD (K : Nat → Int32) (n : Nat) : Prop := ∀ i, i < n → (K i = 8 → br K i ≠ []) ∧ (K i = 6 → br K i = [])
theorem br_op {K : Nat → Int32} {i : Nat} (h : K i = 5 ∨ K i = 6) : br K (i + 1) = i :: br K i := if_pos h
theorem br_end {K : Nat → Int32} {i : Nat} (h : K i = 8) : br K (i + 1) = (br K i).tail := by
  have h1 : ¬ (K i = 5 ∨ K i = 6) := by rw [h]; decide
  exact (if_neg h1).trans (if_pos h)
theorem br_no {K : Nat → Int32} {i : Nat} (h1 : K i ≠ 5) (h2 : K i ≠ 6) (h3 : K i ≠ 8) : br K (i + 1) = br K i :=
  (if_neg (fun q => q.elim h1 h2)).trans (if_neg h3)
theorem br_lt {K : Nat → Int32} : ∀ i, ∀ o ∈ br K i, o < i ∧ (K o = 5 ∨ K o = 6) := by
  intro i
  induction i with
  | zero => intro o h; cases h
  | succ i ih =>
    intro o h
    by_cases h1 : K i = 5 ∨ K i = 6
    · rw [br_op h1] at h
      rcases List.mem_cons.mp h with rfl | h
      · exact ⟨Nat.lt_succ_self _, h1⟩
      · exact ⟨Nat.lt_succ_of_lt (ih o h).1, (ih o h).2⟩
    · by_cases h2 : K i = 8
      · rw [br_end h2] at h
        have h := List.mem_of_mem_tail h
        exact ⟨Nat.lt_succ_of_lt (ih o h).1, (ih o h).2⟩
      · rw [br_no (fun q => h1 (Or.inl q)) (fun q => h1 (Or.inr q)) h2] at h
        exact ⟨Nat.lt_succ_of_lt (ih o h).1, (ih o h).2⟩
theorem br_suf {K : Nat → Int32} : ∀ i L o M, br K i = L ++ o :: M → M = br K o := by
  intro i
  induction i with
  | zero => intro L o M h; cases L <;> cases h
  | succ i ih =>
    intro L o M h
    by_cases h1 : K i = 5 ∨ K i = 6
    · rw [br_op h1] at h
      cases L with
      | nil => cases h; rfl
      | cons a L =>
        have h := (List.cons.inj h).2
        exact ih L o M h
    · by_cases h2 : K i = 8
      · rw [br_end h2] at h
        cases hb : br K i with
        | nil => rw [hb] at h; cases L <;> cases h
        | cons a T =>
          rw [hb] at h
          exact ih (a :: L) o M (by rw [hb]; exact congrArg (a :: ·) h)
      · rw [br_no (fun q => h1 (Or.inl q)) (fun q => h1 (Or.inr q)) h2] at h
        exact ih L o M h
theorem br_len {K : Nat → Int32} : ∀ i, (br K i).length ≤ i := by
  intro i
  induction i with
  | zero => exact Nat.le_refl 0
  | succ i ih =>
    by_cases h1 : K i = 5 ∨ K i = 6
    · rw [br_op h1]; exact Nat.succ_le_succ ih
    · by_cases h2 : K i = 8
      · rw [br_end h2, List.length_tail]; omega
      · rw [br_no (fun q => h1 (Or.inl q)) (fun q => h1 (Or.inr q)) h2]; omega
/-- how many ends stand ahead of a place -/
def pc (K : Nat → Int32) : Nat → Nat
  | 0 => 0
  | i + 1 => pc K i + if K i = 8 then 1 else 0
theorem pc_mono {K : Nat → Int32} {i j : Nat} (h : i ≤ j) : pc K i ≤ pc K j := by
  induction j with
  | zero => rw [Nat.le_zero.mp h]; exact Nat.le_refl _
  | succ j ih =>
    rcases Nat.lt_or_ge i (j + 1) with q | q
    · exact Nat.le_trans (ih (by omega)) (Nat.le_add_right _ _)
    · rw [show i = j + 1 by omega]; exact Nat.le_refl _
theorem pc_end {K : Nat → Int32} {i : Nat} (h : K i = 8) : pc K (i + 1) = pc K i + 1 := by
  show pc K i + (if K i = 8 then 1 else 0) = _
  rw [if_pos h]
theorem pc_le {K : Nat → Int32} {n : Nat} (hV : VD K n) : ∀ i, i ≤ n → (br K i).length + 2 * pc K i ≤ i := by
  intro i
  induction i with
  | zero => intro _; exact Nat.le_refl 0
  | succ i ih =>
    intro hi
    have ih := ih (by omega)
    have hv := (hV i (by omega)).1
    show (br K (i + 1)).length + 2 * (pc K i + if K i = 8 then 1 else 0) ≤ i + 1
    by_cases h1 : K i = 5 ∨ K i = 6
    · have h2 : ¬ K i = 8 := by rcases h1 with q | q <;> rw [q] <;> decide
      rw [br_op h1, if_neg h2, List.length_cons]; omega
    · by_cases h2 : K i = 8
      · rw [br_end h2, if_pos h2, List.length_tail]
        have h3 : (br K i).length ≠ 0 := fun q => hv h2 (List.eq_nil_of_length_eq_zero q)
        omega
      · rw [br_no (fun q => h1 (Or.inl q)) (fun q => h1 (Or.inr q)) h2, if_neg h2]; omega
/-- c is the end of the block that o opens -/
def isCl (K : Nat → Int32) (n o c : Nat) : Prop := o < c ∧ c < n ∧ K c = 8 ∧ br K c = o :: br K o ∧ ∀ k, o < k → k ≤ c → ∃ L, br K k = L ++ o :: br K o
theorem br_keep {K : Nat → Int32} {k : Nat} {A B : List Nat} {a : Nat} (h : br K k = A ++ a :: B) : (∃ A', br K (k + 1) = A' ++ a :: B) ∨ (A = [] ∧ K k = 8 ∧ br K (k + 1) = B) := by
  by_cases h1 : K k = 5 ∨ K k = 6
  · exact Or.inl ⟨k :: A, by rw [br_op h1, h]; rfl⟩
  · by_cases h2 : K k = 8
    · cases A with
      | nil => exact Or.inr ⟨rfl, h2, by rw [br_end h2, h]; rfl⟩
      | cons b A => exact Or.inl ⟨A, by rw [br_end h2, h]; rfl⟩
    · exact Or.inl ⟨A, by rw [br_no (fun q => h1 (Or.inl q)) (fun q => h1 (Or.inr q)) h2, h]⟩
theorem cl_up {K : Nat → Int32} {o : Nat} (ho : K o = 5 ∨ K o = 6) : ∀ j n, n = o + 1 + j → (∀ k, o < k → k ≤ n → ∃ L, br K k = L ++ o :: br K o) ∨ ∃ c, isCl K n o c := by
  intro j
  induction j with
  | zero =>
    intro n hn
    refine Or.inl fun k h1 h2 => ⟨[], ?_⟩
    rw [show k = o + 1 by omega, br_op ho]
    rfl
  | succ j ih =>
    intro n hn
    obtain ⟨n, rfl⟩ : ∃ m, n = m + 1 := ⟨n - 1, by omega⟩
    rcases ih n (by omega) with h | ⟨c, h⟩
    · obtain ⟨L, hL⟩ := h n (by omega) (Nat.le_refl _)
      rcases br_keep hL with ⟨A, hA⟩ | ⟨e, h8, hB⟩
      · refine Or.inl fun k h1 h2 => ?_
        rcases Nat.lt_or_ge n k with q | q
        · rw [show k = n + 1 by omega]; exact ⟨A, hA⟩
        · exact h k h1 q
      · rw [e] at hL
        exact Or.inr ⟨n, by omega, by omega, h8, hL, fun k h1 h2 => h k h1 h2⟩
    · exact Or.inr ⟨c, h.1, Nat.lt_succ_of_lt h.2.1, h.2.2⟩
theorem cl_ex {K : Nat → Int32} {n o : Nat} (hn : br K n = []) (hon : o < n) (ho : K o = 5 ∨ K o = 6) : ∃ c, isCl K n o c := by
  rcases cl_up ho (n - (o + 1)) n (by omega) with h | h
  · obtain ⟨L, hL⟩ := h n hon (Nat.le_refl _)
    rw [hn] at hL
    cases L <;> cases hL
  · exact h
theorem cl_un {K : Nat → Int32} {n o c c' : Nat} (h : isCl K n o c) (h' : isCl K n o c') : c = c' := by
  have key : ∀ c c', isCl K n o c → isCl K n o c' → ¬ c < c' := by
    intro c c' h h' q
    obtain ⟨L, hL⟩ := h'.2.2.2.2 (c + 1) (by have := h.1; omega) q
    rw [br_end h.2.2.1, h.2.2.2.1] at hL
    have := congrArg List.length hL
    simp at this
    omega
  rcases Nat.lt_trichotomy c c' with q | q | q
  · exact absurd q (key c c' h h')
  · exact q
  · exact absurd q (key c' c h' h)
theorem cl_br {K : Nat → Int32} {n o c : Nat} (h : isCl K n o c) : br K (c + 1) = br K o := by
  rw [br_end h.2.2.1, h.2.2.2.1]
  rfl
/-- an end stands behind the block that it closes -/
theorem cl_of {K : Nat → Int32} {n o c : Nat} {M : List Nat} (hn : br K n = []) (hc : c < n) (h8 : K c = 8) (hb : br K c = o :: M) : isCl K n o c := by
  have ho := br_lt c o (by rw [hb]; exact List.mem_cons_self)
  have hM : M = br K o := br_suf c [] o M hb
  obtain ⟨c', h'⟩ := cl_ex hn (Nat.lt_trans ho.1 hc) ho.2
  rcases Nat.lt_trichotomy c c' with q | q | q
  · -- c before c': then br (c + 1) lacks the suffix
    obtain ⟨L, hL⟩ := h'.2.2.2.2 (c + 1) (by omega) q
    rw [br_end h8, hb, List.tail_cons, hM] at hL
    have := congrArg List.length hL
    simp at this
    omega
  · rw [q]; exact h'
  · -- o is no more open behind c'
    exfalso
    have key : ∀ j, c' + 1 + j ≤ c → o ∉ br K (c' + 1 + j) := by
      intro j
      induction j with
      | zero =>
        intro _ hm
        rw [Nat.add_zero, cl_br h'] at hm
        exact absurd (br_lt o o hm).1 (Nat.lt_irrefl _)
      | succ j ih =>
        intro hj hm
        have ih := ih (by omega)
        rw [← Nat.add_assoc] at hm
        by_cases h1 : K (c' + 1 + j) = 5 ∨ K (c' + 1 + j) = 6
        · rw [br_op h1] at hm
          rcases List.mem_cons.mp hm with e | e
          · have := h'.1; omega
          · exact ih e
        · by_cases h2 : K (c' + 1 + j) = 8
          · rw [br_end h2] at hm
            exact ih (List.mem_of_mem_tail hm)
          · rw [br_no (fun q => h1 (Or.inl q)) (fun q => h1 (Or.inr q)) h2] at hm
            exact ih hm
    have := key (c - (c' + 1)) (by omega)
    rw [show c' + 1 + (c - (c' + 1)) = c by omega, hb] at this
    exact this List.mem_cons_self
