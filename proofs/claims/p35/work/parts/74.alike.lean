theorem gV_ok {R U : Nat → Int32} {isX : Int32} {k : Nat} (hk : k < 256) (hx : isX = 0 ∨ isX = 1) : (∀ e, Str R U e (k % 16) (k / 16) → gC isX e (k % 16) (k / 16) ≤ gV isX (bit1 (R (k / 16)) (nI (k % 16))) (bit1 (U (k / 16)) (nI (k % 16))) k) ∧ (¬ (bit1 (R (k / 16)) (nI (k % 16)) = 0 ∧ bit1 (U (k / 16)) (nI (k % 16)) = 0) → ∃ e, Str R U e (k % 16) (k / 16) ∧ gV isX (bit1 (R (k / 16)) (nI (k % 16))) (bit1 (U (k / 16)) (nI (k % 16))) k = gC isX e (k % 16) (k / 16)) := by
  have hy : k / 16 < 16 := by omega
  have hxx : k % 16 < 16 := by omega
  have n10 : ¬ (1 : Int32) = 0 := by decide
  unfold Str gC gV
  rcases bit_01 (w := R (k / 16)) (show k % 16 < 32 by omega) with r | r <;> rcases bit_01 (w := U (k / 16)) (show k % 16 < 32 by omega) with u | u <;> rw [r, u] <;> rcases hx with rfl | rfl
  all_goals
    refine ⟨fun e h => ?_, fun h => ?_⟩
    · obtain ⟨-, -, ⟨h1, h2⟩ | ⟨h1, h2⟩⟩ := h
      · first
          | exact absurd h2 (by decide)
          | (subst h1; simp only [n10, if_true, if_false]; omega)
      · first
          | exact absurd h2 (by decide)
          | (subst h1; simp only [n10, if_true, if_false]; omega)
    · first
        | exact absurd ⟨rfl, rfl⟩ h
        | (refine ⟨0, ⟨hxx, hy, Or.inl ⟨rfl, rfl⟩⟩, ?_⟩; simp only [n10, if_true, if_false]; done)
        | (refine ⟨1, ⟨hxx, hy, Or.inr ⟨rfl, rfl⟩⟩, ?_⟩; simp only [n10, if_true, if_false]; done)
