/-! the box of a drawing, when a stroke comes to it -/
theorem Str_R {R U : Nat → Int32} {lx ly : Nat} (hx : lx < 16) (hy : ly < 16) {e x y : Nat} : Str (up1 R ly (R ly ||| ((1 : Int32) <<< (nI lx &&& 31)))) U e x y ↔ Str R U e x y ∨ (e = 0 ∧ x = lx ∧ y = ly) := by
  unfold Str up1
  by_cases e1 : y = ly
  · subst e1
    rw [if_pos rfl]
    constructor
    · rintro ⟨h1, h2, h3⟩
      rcases h3 with ⟨h3, h4⟩ | h3
      · rw [bit_or (by omega) (by omega)] at h4
        by_cases e2 : x = lx
        · exact Or.inr ⟨h3, e2, rfl⟩
        · rw [if_neg e2] at h4
          exact Or.inl ⟨h1, h2, Or.inl ⟨h3, h4⟩⟩
      · exact Or.inl ⟨h1, h2, Or.inr h3⟩
    · rintro (⟨h1, h2, h3⟩ | ⟨h1, h2, -⟩)
      · refine ⟨h1, h2, ?_⟩
        rcases h3 with ⟨h3, h4⟩ | h3
        · refine Or.inl ⟨h3, ?_⟩
          rw [bit_or (by omega) (by omega)]
          split
          · rfl
          · exact h4
        · exact Or.inr h3
      · subst h1; subst h2
        refine ⟨hx, hy, Or.inl ⟨rfl, ?_⟩⟩
        rw [bit_or (by omega) (by omega), if_pos rfl]
  · rw [if_neg e1]
    constructor
    · exact fun h => Or.inl h
    · rintro (h | ⟨-, -, h⟩)
      · exact h
      · exact absurd h e1
theorem Str_U {R U : Nat → Int32} {lx ly : Nat} (hx : lx < 16) (hy : ly < 16) {e x y : Nat} : Str R (up1 U ly (U ly ||| ((1 : Int32) <<< (nI lx &&& 31)))) e x y ↔ Str R U e x y ∨ (e = 1 ∧ x = lx ∧ y = ly) := by
  unfold Str up1
  by_cases e1 : y = ly
  · subst e1
    rw [if_pos rfl]
    constructor
    · rintro ⟨h1, h2, h3⟩
      rcases h3 with h3 | ⟨h3, h4⟩
      · exact Or.inl ⟨h1, h2, Or.inl h3⟩
      · rw [bit_or (by omega) (by omega)] at h4
        by_cases e2 : x = lx
        · exact Or.inr ⟨h3, e2, rfl⟩
        · rw [if_neg e2] at h4
          exact Or.inl ⟨h1, h2, Or.inr ⟨h3, h4⟩⟩
    · rintro (⟨h1, h2, h3⟩ | ⟨h1, h2, -⟩)
      · refine ⟨h1, h2, ?_⟩
        rcases h3 with h3 | ⟨h3, h4⟩
        · exact Or.inl h3
        · refine Or.inr ⟨h3, ?_⟩
          rw [bit_or (by omega) (by omega)]
          split
          · rfl
          · exact h4
      · subst h1; subst h2
        refine ⟨hx, hy, Or.inr ⟨rfl, ?_⟩⟩
        rw [bit_or (by omega) (by omega), if_pos rfl]
  · rw [if_neg e1]
    constructor
    · exact fun h => Or.inl h
    · rintro (h | ⟨-, -, h⟩)
      · exact h
      · exact absurd h e1
/-- the box with one stroke more, as the class takes it in -/
def tkL (st x l : Int32) : Int32 := if st = 0 then x else if l ≤ x then l else x
def tkG (st x l : Int32) : Int32 := if st = 0 then x else if x ≤ l then l else x
theorem tkL_n {k x l : Nat} (hk : k ≤ 600) (hx : x < 64) (hl : l < 64) : tkL (nI k) (nI x) (nI l) = nI (if k = 0 then x else if l ≤ x then l else x) := by
  unfold tkL
  by_cases e : k = 0
  · subst e
    rw [if_pos (show nI 0 = 0 from rfl), if_pos rfl]
  · rw [if_neg (nI_ne0 (by omega) (by omega)), if_neg e]
    by_cases e2 : l ≤ x
    · rw [if_pos ((nI_leI (by omega) (by omega)).mpr e2), if_pos e2]
    · rw [if_neg (fun q => e2 ((nI_leI (by omega) (by omega)).mp q)), if_neg e2]
theorem tkG_n {k x l : Nat} (hk : k ≤ 600) (hx : x < 64) (hl : l < 64) : tkG (nI k) (nI x) (nI l) = nI (if k = 0 then x else if x ≤ l then l else x) := by
  unfold tkG
  by_cases e : k = 0
  · subst e
    rw [if_pos (show nI 0 = 0 from rfl), if_pos rfl]
  · rw [if_neg (nI_ne0 (by omega) (by omega)), if_neg e]
    by_cases e2 : x ≤ l
    · rw [if_pos ((nI_leI (by omega) (by omega)).mpr e2), if_pos e2]
    · rw [if_neg (fun q => e2 ((nI_leI (by omega) (by omega)).mp q)), if_neg e2]
theorem Box.add {c e0 X Y : Nat} {R U R1 U1 : Nat → Int32} {st lx ly gx gy : Int32} (hc : c < 600) (h : Box c R U st lx ly gx gy) (hX : X < 16) (hY : Y < 16) (he : e0 < 2) (hS : ∀ e x y, Str R1 U1 e x y ↔ Str R U e x y ∨ (e = e0 ∧ x = X ∧ y = Y)) : Box (c + 1) R1 U1 (st + 1) (tkL st (nI X) lx) (tkL st (nI Y) ly) (tkG st (nI (X + (1 - e0))) gx) (tkG st (nI (Y + e0)) gy) := by
  obtain ⟨k, h1, rfl, h3, h4⟩ := h
  refine ⟨k + 1, by omega, nI_1 k, fun q => absurd q (Nat.succ_ne_zero k), fun _ => ?_⟩
  have hnew : Str R1 U1 e0 X Y := (hS _ _ _).mpr (Or.inr ⟨rfl, rfl, rfl⟩)
  by_cases hk : k = 0
  · subst hk
    refine ⟨X, Y, X + (1 - e0), Y + e0, if_pos rfl, if_pos rfl, if_pos rfl, if_pos rfl, fun e x y h => ?_, ⟨_, _, _, hnew, rfl⟩, ⟨_, _, _, hnew, rfl⟩, ⟨_, _, _, hnew, rfl⟩, ⟨_, _, _, hnew, rfl⟩⟩
    rcases (hS _ _ _).mp h with h | ⟨rfl, rfl, rfl⟩
    · exact absurd h (h3 rfl e x y)
    · omega
  · obtain ⟨a, b, c9, d, rfl, rfl, rfl, rfl, m1, ⟨e1, x1, y1, s1, t1⟩, ⟨e2, x2, y2, s2, t2⟩, ⟨e3, x3, y3, s3, t3⟩, ⟨e4, x4, y4, s4, t4⟩⟩ := h4 (by omega)
    have b1 := s1.1; have b2 := s2.2.1; have b3 := s3.1; have b4 := s4.2.1
    have b5 : e4 ≤ 1 := by rcases s4.2.2 with q | q <;> omega
    have up : ∀ e x y, Str R U e x y → Str R1 U1 e x y := fun e x y h => (hS _ _ _).mpr (Or.inl h)
    refine ⟨_, _, _, _, tkL_n (by omega) (by omega) (by omega), tkL_n (by omega) (by omega) (by omega), tkG_n (by omega) (by omega) (by omega), tkG_n (by omega) (by omega) (by omega), fun e x y h => ?_, ?_, ?_, ?_, ?_⟩
    · rcases (hS _ _ _).mp h with h | ⟨rfl, rfl, rfl⟩
      · have := m1 e x y h
        rw [if_neg hk, if_neg hk, if_neg hk, if_neg hk]
        refine ⟨?_, ?_, ?_, ?_⟩ <;> split <;> omega
      · rw [if_neg hk, if_neg hk, if_neg hk, if_neg hk]
        refine ⟨?_, ?_, ?_, ?_⟩ <;> split <;> omega
    · rw [if_neg hk]
      split
      · exact ⟨_, _, _, up _ _ _ s1, t1⟩
      · exact ⟨_, _, _, hnew, rfl⟩
    · rw [if_neg hk]
      split
      · exact ⟨_, _, _, up _ _ _ s2, t2⟩
      · exact ⟨_, _, _, hnew, rfl⟩
    · rw [if_neg hk]
      split
      · exact ⟨_, _, _, up _ _ _ s3, t3⟩
      · exact ⟨_, _, _, hnew, rfl⟩
    · rw [if_neg hk]
      split
      · exact ⟨_, _, _, up _ _ _ s4, t4⟩
      · exact ⟨_, _, _, hnew, rfl⟩
