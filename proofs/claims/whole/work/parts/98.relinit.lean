/-! the class as it begins -/
def Dsm (z m : Nat) (LK LR : List (Nat × Nat × Nat)) (LI : List (Nat × Nat × Int32)) (X : Mem) : Prop := mZ X = z + m ∧ (∀ q ∈ LK, q.1 < m ∧ mK X (z + q.1) = some q.2) ∧ (∀ q ∈ LR, q.2.1 < m ∧ mR X q.1 (z + q.2.1) = some (z + q.2.2)) ∧ (∀ q ∈ LI, q.2.1 < m ∧ mI X q.1 (z + q.2.1) = q.2.2) ∧ (∀ k a, k ≠ 901 → k ≠ 902 → mI X k a = 0) ∧ (∀ a j, aI X a j = 0) ∧ FreshM X
section DSM
variable {z m : Nat} {LK LR : List (Nat × Nat × Nat)} {LI : List (Nat × Nat × Int32)} {X : Mem}
theorem Dsm.k (h : Dsm z m LK LR LI X) (i c n : Nat) (hq : (i, c, n) ∈ LK) : mK X (z + i) = some (c, n) := (h.2.1 _ hq).2
theorem Dsm.q (h : Dsm z m LK LR LI X) {t n9 : Nat} (i c n : Nat) (hq : (i, c, n) ∈ LK) : mK (nA X t n9) (z + i) = some (c, n) := kA (h.2.1 _ hq).2 (by have := (h.2.1 _ hq).1; have := h.1; omega)
theorem Dsm.n (h : Dsm z m LK LR LI X) (c : Nat) : Dsm z (m + 1) ((m, c, 0) :: LK) LR LI (nO X c) := by
  obtain ⟨h1, h2, h3, h4, h5, h6, h7⟩ := h
  refine ⟨(congrArg (· + 1) h1).trans rfl, fun q hq => ?_, fun q hq => ?_, fun q hq => ?_, fun k a e1 e2 => ?_, h6, h7.nO⟩
  · rcases List.mem_cons.mp hq with e | e
    · rw [e]
      exact ⟨Nat.lt_succ_self m, by rw [← h1]; exact mK_nO0⟩
    · have l := (h2 q e).1
      exact ⟨Nat.lt_succ_of_lt l, (mK_nO (by omega)).trans (h2 q e).2⟩
  · have l := (h3 q hq).1
    exact ⟨Nat.lt_succ_of_lt l, (mR_nO (by omega)).trans (h3 q hq).2⟩
  · have l := (h4 q hq).1
    exact ⟨Nat.lt_succ_of_lt l, (mI_nO (by omega)).trans (h4 q hq).2⟩
  · by_cases e : a = mZ X
    · rw [e]; exact mI_nO0
    · exact (mI_nO e).trans (h5 k a e1 e2)
theorem Dsm.w (h : Dsm z m LK LR LI X) (k i j : Nat) (hi : i < m) (hk : ∀ q ∈ LR, q.1 = k → q.2.1 ≠ i) : Dsm z m LK ((k, i, j) :: LR) LI (wR X k (z + i) (some (z + j))) := by
  obtain ⟨h1, h2, h3, h4, h5, h6, h7⟩ := h
  refine ⟨h1, h2, fun q hq => ?_, h4, h5, h6, h7.cg rfl rfl⟩
  rcases List.mem_cons.mp hq with e | e
  · rw [e]
    exact ⟨hi, by rw [mR_wR, if_pos ⟨rfl, rfl⟩]⟩
  · have l := (h3 q e).1
    refine ⟨l, ?_⟩
    rw [mR_wR, if_neg (fun y => hk q e y.1 (by have := y.2; omega))]
    exact (h3 q e).2
theorem Dsm.a (h : Dsm z m LK LR LI X) (t n : Nat) : Dsm z (m + 1) ((m, 20 + t, n) :: LK) LR LI (nA X t n) := by
  obtain ⟨h1, h2, h3, h4, h5, h6, h7⟩ := h
  refine ⟨(congrArg (· + 1) h1).trans rfl, fun q hq => ?_, fun q hq => ⟨Nat.lt_succ_of_lt (h3 q hq).1, (h3 q hq).2⟩, fun q hq => ⟨Nat.lt_succ_of_lt (h4 q hq).1, (h4 q hq).2⟩, h5, fun a j => ?_, h7.nA⟩
  · rcases List.mem_cons.mp hq with e | e
    · rw [e]
      exact ⟨Nat.lt_succ_self m, by rw [← h1]; exact if_pos rfl⟩
    · have l := (h2 q e).1
      exact ⟨Nat.lt_succ_of_lt l, kA (h2 q e).2 (by omega)⟩
  · by_cases e : a = mZ X
    · rw [e]; exact if_pos rfl
    · exact (if_neg e).trans (h6 a j)
theorem Dsm.l (h : Dsm z m LK LR LI X) (k t n i : Nat) (hi : i < m) (hk : ∀ q ∈ LR, q.1 = k → q.2.1 ≠ i) : Dsm z (m + 1) ((m, 20 + t, n) :: LK) ((k, i, m) :: LR) LI (wR (nA X t n) k (z + i) (some (z + m))) := (h.a t n).w k i m (Nat.lt_succ_of_lt hi) hk
theorem Dsm.wi (h : Dsm z m LK LR LI X) (k i : Nat) (v : Int32) (hi : i < m) (hk : k = 901 ∨ k = 902) (h9 : ∀ q ∈ LI, q.1 = k → q.2.1 ≠ i) : Dsm z m LK LR ((k, i, v) :: LI) (wI X k (z + i) v) := by
  obtain ⟨h1, h2, h3, h4, h5, h6, h7⟩ := h
  refine ⟨h1, h2, h3, fun q hq => ?_, fun k9 a e1 e2 => ?_, h6, h7.cg rfl rfl⟩
  · rcases List.mem_cons.mp hq with e | e
    · rw [e]
      exact ⟨hi, by rw [mI_wI, if_pos ⟨rfl, rfl⟩]⟩
    · refine ⟨(h4 q e).1, ?_⟩
      rw [mI_wI, if_neg (fun y => h9 q e y.1 (by have := y.2; omega))]
      exact (h4 q e).2
  · rw [mI_wI, if_neg (by omega)]
    exact h5 k9 a e1 e2
theorem Dsm.lt (h : Dsm z m LK LR LI X) {i c n : Nat} (hq : (i, c, n) ∈ LK) : i < m := (h.2.1 _ hq).1
theorem mem_tl {α : Type} {a b : α} {l : List α} (h : a ∈ l) : a ∈ b :: l := List.mem_cons.mpr (Or.inr h)
theorem no_tl {k k' i j : Nat} (hk : ∀ q ∈ LR, q.1 = k → q.2.1 ≠ i) (e : k' ≠ k) : ∀ q ∈ (k', i, j) :: LR, q.1 = k → q.2.1 ≠ i := fun q hq y => by
  rcases List.mem_cons.mp hq with e9 | e9
  · rw [e9] at y; exact absurd y e
  · exact hk q e9 y
theorem i_1 (h : Dsm z m LK LR LI X) (i : Nat) (hi : (i, 1, 0) ∈ LK) (h1 : ∀ q ∈ LR, q.1 = 100 → q.2.1 ≠ i) (h2 : ∀ q ∈ LR, q.1 = 101 → q.2.1 ≠ i) : ∃ X', fX1_init X (z + i) = some X' ∧ Dsm z (m + 1 + 1) ((m + 1, 21, 4) :: (m, 23, 30) :: LK) ((101, i, m + 1) :: (100, i, m) :: LR) LI X' := by
  have d1 := h.l 100 3 30 i (h.lt hi) h1
  unfold fX1_init
  rw [bi_some, bi_some, if_pos (h.q i 1 0 hi), h.1]
  generalize wR (nA X 3 30) 100 (z + i) (some (z + m)) = X1 at d1 ⊢
  have hi1 := mem_tl (b := (m, 23, 30)) hi
  rw [bi_some, bi_some, if_pos (d1.q i 1 0 hi1), d1.1]
  exact ⟨_, rfl, d1.l 101 1 4 i (d1.lt hi1) (no_tl h2 (by decide))⟩
theorem i_2 (h : Dsm z m LK LR LI X) (i : Nat) (hi : (i, 2, 0) ∈ LK) (h1 : ∀ q ∈ LR, q.1 = 200 → q.2.1 ≠ i) (h2 : ∀ q ∈ LR, q.1 = 201 → q.2.1 ≠ i) : ∃ X', fX2_init X (z + i) = some X' ∧ Dsm z (m + 1 + 1) ((m + 1, 20, 16) :: (m, 20, 16) :: LK) ((201, i, m + 1) :: (200, i, m) :: LR) LI X' := by
  have d1 := h.l 200 0 16 i (h.lt hi) h1
  unfold fX2_init
  rw [bi_some, bi_some, if_pos (h.q i 2 0 hi), h.1]
  generalize wR (nA X 0 16) 200 (z + i) (some (z + m)) = X1 at d1 ⊢
  have hi1 := mem_tl (b := (m, 20, 16)) hi
  rw [bi_some, bi_some, if_pos (d1.q i 2 0 hi1), d1.1]
  exact ⟨_, rfl, d1.l 201 0 16 i (d1.lt hi1) (no_tl h2 (by decide))⟩
theorem i_0 (h : Dsm z m LK LR LI X) (i : Nat) (hi : (i, 0, 0) ∈ LK) (h1 : ∀ q ∈ LR, q.1 = 0 → q.2.1 ≠ i) (h2 : ∀ q ∈ LR, q.1 = 1 → q.2.1 ≠ i) : ∃ X', fX0_init X (z + i) = some X' ∧ Dsm z (m + 1 + 1) ((m + 1, 20, 31) :: (m, 20, 31) :: LK) ((1, i, m + 1) :: (0, i, m) :: LR) LI X' := by
  have d1 := h.l 0 0 31 i (h.lt hi) h1
  unfold fX0_init
  rw [bi_some, bi_some, if_pos (h.q i 0 0 hi), h.1]
  generalize wR (nA X 0 31) 0 (z + i) (some (z + m)) = X1 at d1 ⊢
  have hi1 := mem_tl (b := (m, 20, 31)) hi
  rw [bi_some, bi_some, if_pos (d1.q i 0 0 hi1), d1.1]
  exact ⟨_, rfl, d1.l 1 0 31 i (d1.lt hi1) (no_tl h2 (by decide))⟩
theorem i_9 (h : Dsm z m LK LR [] X) (i : Nat) (hi : (i, 9, 0) ∈ LK) (h1 : ∀ q ∈ LR, q.1 = 900 → q.2.1 ≠ i) : ∃ X', fX9_init X (z + i) = some X' ∧ Dsm z (m + 1) ((m, 22, 40) :: LK) ((900, i, m) :: LR) [(902, i, 20), (901, i, 20)] X' := by
  have d1 := h.l 900 2 40 i (h.lt hi) h1
  unfold fX9_init
  rw [bi_some, bi_some, if_pos (h.q i 9 0 hi), h.1]
  have hi1 := d1.lt (mem_tl (b := (m, 22, 40)) hi)
  refine ⟨_, rfl, (d1.wi 901 i 20 hi1 (Or.inl rfl) (fun q hq => absurd hq List.not_mem_nil)).wi 902 i 20 hi1 (Or.inr rfl) (fun q hq y => ?_)⟩
  rcases List.mem_cons.mp hq with e9 | e9
  · rw [e9] at y; exact absurd (show (901 : Nat) = 902 from y) (by decide)
  · exact absurd e9 List.not_mem_nil
theorem i_7 (h : Dsm z m LK LR LI X) (i : Nat) (hi : (i, 7, 0) ∈ LK) (h0 : ∀ q ∈ LR, q.1 = 700 → q.2.1 ≠ i) (h1 : ∀ q ∈ LR, q.1 = 701 → q.2.1 ≠ i) (h2 : ∀ q ∈ LR, q.1 = 702 → q.2.1 ≠ i) (h3 : ∀ q ∈ LR, q.1 = 703 → q.2.1 ≠ i) (h4 : ∀ q ∈ LR, q.1 = 704 → q.2.1 ≠ i) (h5 : ∀ q ∈ LR, q.1 = 200 → q.2.1 ≠ m + 1 + 1 + 1 + 1) (h6 : ∀ q ∈ LR, q.1 = 201 → q.2.1 ≠ m + 1 + 1 + 1 + 1) (hne : i ≠ m + 1 + 1 + 1 + 1) : ∃ X', fX7_init X (z + i) = some X' ∧ Dsm z (m + 7) ((m + 6, 20, 16) :: (m + 5, 20, 16) :: (m + 4, 2, 0) :: (m + 3, 20, 8) :: (m + 2, 20, 270) :: (m + 1, 20, 4) :: (m, 8, 0) :: LK) ((704, i, m + 4) :: (201, m + 4, m + 6) :: (200, m + 4, m + 5) :: (703, i, m + 3) :: (702, i, m + 2) :: (701, i, m + 1) :: (700, i, m) :: LR) LI X' := by
  have hl := h.lt hi
  have d1 := h.n 8
  unfold fX7_init fX8_init
  rw [bi_some, bi_some, bi_some, h.1]
  generalize nO X 8 = X5 at d1 ⊢
  have m1 := mem_tl (b := (m, 8, 0)) hi
  rw [if_pos (d1.k i 7 0 m1)]
  have d2 := d1.w 700 i m (by omega) h0
  generalize wR X5 700 (z + i) (some (z + m)) = X6 at d2 ⊢
  have d3 := d2.l 701 0 4 i (by omega) (no_tl h1 (by decide))
  rw [bi_some, bi_some, if_pos (d2.q i 7 0 m1), d2.1]
  generalize wR (nA X6 0 4) 701 (z + i) (some (z + (m + 1))) = X17 at d3 ⊢
  have m2 := mem_tl (b := (m + 1, 20, 4)) m1
  have d4 := d3.l 702 0 270 i (by omega) (no_tl (no_tl h2 (by decide)) (by decide))
  rw [bi_some, bi_some, if_pos (d3.q i 7 0 m2), d3.1]
  generalize wR (nA X17 0 270) 702 (z + i) (some (z + (m + 1 + 1))) = X26 at d4 ⊢
  have m3 := mem_tl (b := (m + 1 + 1, 20, 270)) m2
  have d5 := d4.l 703 0 8 i (by omega) (no_tl (no_tl (no_tl h3 (by decide)) (by decide)) (by decide))
  rw [bi_some, bi_some, if_pos (d4.q i 7 0 m3), d4.1]
  generalize wR (nA X26 0 8) 703 (z + i) (some (z + (m + 1 + 1 + 1))) = X34 at d5 ⊢
  have m4 := mem_tl (b := (m + 1 + 1 + 1, 20, 8)) m3
  have d6 := d5.n 2
  rw [bi_some, bi_some, d5.1]
  generalize nO X34 2 = X40 at d6 ⊢
  have nn : ∀ k, k < 300 → (∀ q ∈ LR, q.1 = k → q.2.1 ≠ m + 1 + 1 + 1 + 1) → ∀ q ∈ (703, i, m + 1 + 1 + 1) :: (702, i, m + 1 + 1) :: (701, i, m + 1) :: (700, i, m) :: LR, q.1 = k → q.2.1 ≠ m + 1 + 1 + 1 + 1 := fun k hk hq q hm y => by
    rcases List.mem_cons.mp hm with e | hm
    · rw [e]; exact hne
    · rcases List.mem_cons.mp hm with e | hm
      · rw [e]; exact hne
      · rcases List.mem_cons.mp hm with e | hm
        · rw [e]; exact hne
        · rcases List.mem_cons.mp hm with e | hm
          · rw [e]; exact hne
          · exact hq q hm y
  obtain ⟨X44, e, d7⟩ := i_2 d6 (m + 1 + 1 + 1 + 1) (List.mem_cons.mpr (Or.inl rfl)) (nn 200 (by decide) h5) (nn 201 (by decide) h6)
  have m5 := mem_tl (b := (m + 1 + 1 + 1 + 1 + 1 + 1, 20, 16)) (mem_tl (b := (m + 1 + 1 + 1 + 1 + 1, 20, 16)) (mem_tl (b := (m + 1 + 1 + 1 + 1, 2, 0)) m4))
  rw [e, bi_some, if_pos (d7.k i 7 0 m5)]
  have d8 := d7.w 704 i (m + 1 + 1 + 1 + 1) (by omega) (fun q hm y => by
    rcases List.mem_cons.mp hm with e9 | hm
    · rw [e9] at y; exact absurd (show (201 : Nat) = 704 from y) (by decide)
    · rcases List.mem_cons.mp hm with e9 | hm
      · rw [e9] at y; exact absurd (show (200 : Nat) = 704 from y) (by decide)
      · exact no_tl (no_tl (no_tl (no_tl h4 (by decide)) (by decide)) (by decide)) (by decide) q hm y)
  exact ⟨_, rfl, d8⟩
end DSM
