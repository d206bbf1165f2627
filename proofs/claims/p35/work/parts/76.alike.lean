/-- the greatest coordinate of a drawing with strokes; 0 without -/
theorem q_great {p fu k a b c9 d : Nat} {S : SM} {R U : Nat → Int32} (hp : p < 30) (hfu : 300 ≤ fu) (hR : ∀ j, j < 16 → ar S 13 (16 * p + j) = R j) (hU : ∀ j, j < 16 → ar S 14 (16 * p + j) = U j) (h0 : k = 0 → (∀ e x y, ¬ Str R U e x y) ∧ c9 = 0 ∧ d = 0) (h1 : 0 < k → MM R U a b c9 d) : fX12_greatestOf fu S (nI p) 1 = some (nI c9) ∧ fX12_greatestOf fu S (nI p) 0 = some (nI d) := by
  have go : ∀ isX : Int32, (isX = 0 ∨ isX = 1) → fX12_greatestOf fu S (nI p) isX = some (nI (if isX = 0 then d else c9)) := by
    intro isX hx
    unfold fX12_greatestOf
    obtain ⟨a', w1, w2, w3, w4⟩ := q_great1 (fu := fu) hp hx hR hU 256 0 (fu - 257) 0 (by omega) (by omega) (fun j e hj => absurd hj (Nat.not_lt_zero j)) (Or.inl rfl)
    rw [show fu - 257 + 256 + 1 = fu by omega] at w1
    refine Eq.trans w1 ?_
    congr 2
    by_cases ek : k = 0
    · obtain ⟨n1, rfl, rfl⟩ := h0 ek
      rcases w4 with w4 | ⟨j, e, j1, j2, j3⟩
      · rw [w4]
        split <;> rfl
      · exact absurd j2 (n1 _ _ _)
    · obtain ⟨m1, -, -, ⟨e1, x1, y1, s1, t1⟩, ⟨e2, x2, y2, s2, t2⟩⟩ := h1 (by omega)
      rcases hx with e | e
      · subst e
        rw [if_pos rfl]
        obtain ⟨c1, c2, c3⟩ := cel_j s2.1 s2.2.1
        have u1 := w3 (16 * y2 + x2) e2 c3 (by rw [c1, c2]; exact s2)
        rw [c1, c2] at u1
        unfold gC at u1 w4
        rw [if_pos rfl] at u1
        rcases w4 with w4 | ⟨j, e, j1, j2, j3⟩
        · omega
        · rw [if_pos rfl] at j3
          have := m1 _ _ _ j2
          omega
      · subst e
        rw [if_neg (by decide)]
        obtain ⟨c1, c2, c3⟩ := cel_j s1.1 s1.2.1
        have u1 := w3 (16 * y1 + x1) e1 c3 (by rw [c1, c2]; exact s1)
        rw [c1, c2] at u1
        unfold gC at u1 w4
        rw [if_neg (by decide)] at u1
        rcases w4 with w4 | ⟨j, e, j1, j2, j3⟩
        · omega
        · rw [if_neg (by decide)] at j3
          have := m1 _ _ _ j2
          omega
  refine ⟨(go 1 (Or.inr rfl)).trans ?_, (go 0 (Or.inl rfl)).trans ?_⟩
  · rw [if_neg (by decide)]
  · rw [if_pos rfl]
