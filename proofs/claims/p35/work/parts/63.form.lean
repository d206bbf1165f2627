/-! the reference lays a form -/
theorem q_anew {fu r t : Nat} {S : SM} (hr : r = 20 ∨ r = 21) (ht : t < 4) (hfu : 10 ≤ fu) : fX12_anew fu S r (nI t) = some ((anw (ar S r) t).1, ua S r t (anw (ar S r) t).1) := by
  have hin : ∀ j, j < 4 → inS 0 r (nI j) = true := by
    intro j hj
    rcases hr with e | e <;> subst e
    · exact inS_ok (by decide) rfl hj (by decide)
    · exact inS_ok (by decide) rfl hj (by decide)
  have step : ∀ (m j : Nat) (acc : Nat), j < 4 → fX12_anew_L4 fu (m + 1) S r (nI t) (nI acc) (nI j) = fX12_anew_L4 fu m S r (nI t) (nI (acc + if ar S r j = -1 then 0 else 1)) (nI (j + 1)) := by
    intro m j acc hj
    show fX12_anew_L4b fu (fX12_anew_L4 fu m) S r (nI t) (nI acc) (nI j) = _
    unfold fX12_anew_L4b fX12_anew_L22
    rw [if_neg (show ¬ (4 : Int32) ≤ nI j from fun q => by have := (nI_leI (by omega : 4 < 2 ^ 31) (by omega)).mp q; omega), if_pos (hin j hj), nI_clamp (by omega), nI_1]
    by_cases e : ar S r j = -1
    · rw [if_pos e, if_pos e, Int32.add_zero]
      rfl
    · rw [if_neg e, if_neg e, nI_1]
  have last : ∀ (m acc : Nat), fX12_anew_L4 fu (m + 1) S r (nI t) (nI acc) (nI 4) = some ((if ar S r t = -1 then nI acc else ar S r t), ua S r t (if ar S r t = -1 then nI acc else ar S r t)) := by
    intro m acc
    show fX12_anew_L4b fu (fX12_anew_L4 fu m) S r (nI t) (nI acc) (nI 4) = _
    unfold fX12_anew_L4b fX12_anew_L46
    rw [if_pos (by decide), if_pos (hin t ht), nI_clamp (by omega)]
    by_cases e : ar S r t = -1
    · rw [if_pos e, if_pos e, if_pos (hin t ht), if_pos (hin t ht), ar_ua, if_pos ⟨rfl, rfl⟩]
    · rw [if_neg e, if_neg e, if_pos (hin t ht), if_pos (hin t ht), if_pos (hin t ht), ar_ua, if_pos ⟨rfl, rfl⟩]
  unfold fX12_anew
  obtain ⟨m, rfl⟩ : ∃ m, fu = m + 5 := ⟨fu - 5, by omega⟩
  have k := step (m + 4) 0 0 (by decide)
  rw [step (m + 3) 1 _ (by decide), step (m + 2) 2 _ (by decide), step (m + 1) 3 _ (by decide), last] at k
  rw [show (0 : Int32) = nI 0 from rfl, k]
  unfold anw cnN
  simp only [Nat.zero_add]
  by_cases e : ar S r t = -1
  · rw [if_pos e, if_pos e]
  · rw [if_neg e, if_neg e]
/-- the reference's code of an order -/
def cdR (K T V N : Nat → Int32) (k : Nat) : Int32 := ((10000 : Int32) * K k + (1000 : Int32) * fTg K T V N k) + (if N k = 0 then (100 : Int32) + V k else (500 : Int32) + fVa K T V N k)
/-- what laying a form leaves -/
def LF (S S' : SM) : Prop := sc S' = sc S ∧ (∀ r, r ≠ 19 → r ≠ 20 → r ≠ 21 → ar S' r = ar S r) ∧ al S' = al S
theorem LF.rfl9 {S : SM} : LF S S := ⟨rfl, fun _ _ _ _ => rfl, rfl⟩
theorem LF.trans {a b c : SM} (h : LF a b) (k : LF b c) : LF a c := ⟨k.1.trans h.1, fun r a1 a2 a3 => (k.2.1 r a1 a2 a3).trans (h.2.1 r a1 a2 a3), k.2.2.trans h.2.2⟩
theorem LF.ua {S : SM} {r i : Nat} {v : Int32} (h : r = 19 ∨ r = 20 ∨ r = 21) : LF S (ua S r i v) := ⟨rfl, fun r' a1 a2 a3 => funext fun j => if_neg (fun q => by omega), rfl⟩
theorem PD.lf {p n : Nat} {K T V N : Nat → Int32} {S S' : SM} (h : PD p n K T V N S) (k : LF S S') : PD p n K T V N S' := by
  refine ⟨by rw [k.2.1 5 (by omega) (by omega) (by omega)]; exact h.1, fun j hj => ?_⟩
  rw [k.2.1 6 (by omega) (by omega) (by omega), k.2.1 7 (by omega) (by omega) (by omega), k.2.1 8 (by omega) (by omega) (by omega), k.2.1 9 (by omega) (by omega) (by omega)]
  exact h.2 j hj
theorem anw_2 {f : Nat → Int32} {t : Nat} : (anw f t).2 = up1 f t (anw f t).1 := by
  unfold anw
  by_cases e : f t = -1
  · rw [if_pos e]
  · rw [if_neg e]
    funext j
    show f j = if j = t then f t else f j
    by_cases e2 : j = t
    · rw [if_pos e2, e2]
    · rw [if_neg e2]
theorem anw_cg {f f' : Nat → Int32} {t : Nat} (ht : t < 4) (h : ∀ j, j < 4 → f j = f' j) : (anw f t).1 = (anw f' t).1 := by
  unfold anw cnN
  rw [h t ht, h 0 (by omega), h 1 (by omega), h 2 (by omega), h 3 (by omega)]
  by_cases e : f' t = -1
  · rw [if_pos e, if_pos e]
  · rw [if_neg e, if_neg e]
/-- the numbers stand in the reference's arrays -/
def NR (S : SM) (s : Nbs) : Prop := (∀ j, j < 4 → ar S 20 j = s.1 j) ∧ ∀ j, j < 4 → ar S 21 j = s.2 j
theorem q_anew1 {fu t : Nat} {S : SM} {s : Nbs} (ht : t < 4) (hfu : 10 ≤ fu) (h : NR S s) : ∃ S', fX12_anew fu S 20 (nI t) = some ((anw s.1 t).1, S') ∧ NR S' ((anw s.1 t).2, s.2) ∧ LF S S' ∧ ar S' 19 = ar S 19 := by
  have e := anw_cg (f := ar S 20) (f' := s.1) ht h.1
  refine ⟨ua S 20 t (anw (ar S 20) t).1, by rw [q_anew (Or.inl rfl) ht hfu, e], ⟨fun j hj => ?_, fun j hj => ?_⟩, LF.ua (Or.inr (Or.inl rfl)), funext fun j => by rw [ar_ua, if_neg (by omega)]⟩
  · rw [ar_ua, anw_2, e]
    show _ = if j = t then _ else s.1 j
    by_cases e2 : j = t
    · rw [if_pos ⟨rfl, e2⟩, if_pos e2]
    · rw [if_neg (fun q => e2 q.2), if_neg e2]
      exact h.1 j hj
  · rw [ar_ua, if_neg (by omega)]
    exact h.2 j hj
theorem q_anew2 {fu t : Nat} {S : SM} {s : Nbs} (ht : t < 4) (hfu : 10 ≤ fu) (h : NR S s) : ∃ S', fX12_anew fu S 21 (nI t) = some ((anw s.2 t).1, S') ∧ NR S' (s.1, (anw s.2 t).2) ∧ LF S S' ∧ ar S' 19 = ar S 19 := by
  have e := anw_cg (f := ar S 21) (f' := s.2) ht h.2
  refine ⟨ua S 21 t (anw (ar S 21) t).1, by rw [q_anew (Or.inr rfl) ht hfu, e], ⟨fun j hj => ?_, fun j hj => ?_⟩, LF.ua (Or.inr (Or.inr rfl)), funext fun j => by rw [ar_ua, if_neg (by omega)]⟩
  · rw [ar_ua, if_neg (by omega)]
    exact h.1 j hj
  · rw [ar_ua, anw_2, e]
    show _ = if j = t then _ else s.2 j
    by_cases e2 : j = t
    · rw [if_pos ⟨rfl, e2⟩, if_pos e2]
    · rw [if_neg (fun q => e2 q.2), if_neg e2]
      exact h.2 j hj
