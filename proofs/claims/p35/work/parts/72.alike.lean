theorem cel_j {x y : Nat} (hx : x < 16) (hy : y < 16) : (16 * y + x) % 16 = x ∧ (16 * y + x) / 16 = y ∧ 16 * y + x < 256 := by omega
/-- the least coordinate of a drawing with strokes; 0 without -/
theorem q_least {p fu k a b c9 d : Nat} {S : SM} {R U : Nat → Int32} (hp : p < 30) (hfu : 300 ≤ fu) (hR : ∀ j, j < 16 → ar S 13 (16 * p + j) = R j) (hU : ∀ j, j < 16 → ar S 14 (16 * p + j) = U j) (hk : k ≤ 600) (h12 : ar S 12 p = nI k) (h0 : k = 0 → (∀ e x y, ¬ Str R U e x y) ∧ a = 0 ∧ b = 0) (h1 : 0 < k → MM R U a b c9 d) : fX12_leastOf fu S (nI p) 1 = some (nI a) ∧ fX12_leastOf fu S (nI p) 0 = some (nI b) := by
  have go : ∀ isX : Int32, (isX = 0 ∨ isX = 1) → fX12_leastOf fu S (nI p) isX = some (nI (if isX = 0 then b else a)) := by
    intro isX hx
    unfold fX12_leastOf fX12_leastOf_L15
    rw [if_pos (inS_ok (by decide) rfl hp (by decide)), nI_clamp (by omega), h12]
    by_cases ek : k = 0
    · obtain ⟨n1, rfl, rfl⟩ := h0 ek
      rw [if_pos (by rw [ek]; rfl)]
      obtain ⟨a', w1, w2, w3, w4⟩ := q_least1 (fu := fu) hp hx hR hU 0 (by omega) 256 0 (fu - 257) 0 (by omega) (Nat.le_refl 0) (fun j hj => absurd hj (Nat.not_lt_zero j)) (Or.inl rfl)
      rw [show fu - 257 + 256 + 1 = fu by omega] at w1
      have : a' = 0 := Nat.le_zero.mp w2
      rw [this] at w1
      refine Eq.trans w1 ?_
      split <;> rfl
    · rw [if_neg (nI_ne0 (by omega) (by omega))]
      obtain ⟨m1, ⟨e1, x1, y1, s1, t1⟩, ⟨e2, x2, y2, s2, t2⟩, -, -⟩ := h1 (by omega)
      obtain ⟨a', w1, w2, w3, w4⟩ := q_least1 (fu := fu) hp hx hR hU 16 (by omega) 256 0 (fu - 257) 16 (by omega) (Nat.le_refl 16) (fun j hj => absurd hj (Nat.not_lt_zero j)) (Or.inl rfl)
      rw [show fu - 257 + 256 + 1 = fu by omega] at w1
      refine Eq.trans w1 ?_
      congr 2
      rcases hx with e | e
      · subst e
        rw [if_pos rfl]
        obtain ⟨c1, c2, c3⟩ := cel_j s2.1 s2.2.1
        have u1 := w3 (16 * y2 + x2) c3 (by rw [c1, c2]; exact ⟨e2, s2⟩)
        rw [if_pos rfl, c2] at u1
        have := s2.2.1
        rcases w4 with w4 | ⟨j, j1, ⟨e, j2⟩, j3⟩
        · omega
        · rw [if_pos rfl] at j3
          have := m1 _ _ _ j2
          omega
      · subst e
        rw [if_neg (by decide)]
        obtain ⟨c1, c2, c3⟩ := cel_j s1.1 s1.2.1
        have u1 := w3 (16 * y1 + x1) c3 (by rw [c1, c2]; exact ⟨e1, s1⟩)
        rw [if_neg (by decide), c1] at u1
        have := s1.1
        rcases w4 with w4 | ⟨j, j1, ⟨e, j2⟩, j3⟩
        · omega
        · rw [if_neg (by decide)] at j3
          have := m1 _ _ _ j2
          omega
  refine ⟨(go 1 (Or.inr rfl)).trans ?_, (go 0 (Or.inl rfl)).trans ?_⟩
  · rw [if_neg (by decide)]
  · rw [if_pos rfl]
