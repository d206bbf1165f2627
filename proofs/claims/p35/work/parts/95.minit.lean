/-! the class as it begins -/
def Dsm (z m : Nat) (LK LR : List (Nat × Nat × Nat)) (LI : List (Nat × Nat × Int32)) (X : Mem) : Prop := mZ X = z + m ∧ (∀ q ∈ LK, q.1 < m ∧ mK X (z + q.1) = some q.2) ∧ (∀ q ∈ LR, q.2.1 < m ∧ mR X q.1 (z + q.2.1) = some (z + q.2.2)) ∧ (∀ q ∈ LI, q.2.1 < m ∧ mI X q.1 (z + q.2.1) = q.2.2) ∧ (∀ k a, k ≠ 901 → k ≠ 902 → mI X k a = 0) ∧ (∀ a j, aI X a j = 0) ∧ FreshM X
section DSM
variable {z m : Nat} {LK LR : List (Nat × Nat × Nat)} {LI : List (Nat × Nat × Int32)} {X : Mem}
theorem Dsm.k (h : Dsm z m LK LR LI X) (i c n : Nat) (hq : (i, c, n) ∈ LK) : mK X (z + i) = some (c, n) := (h.2.1 _ hq).2
theorem Dsm.q (h : Dsm z m LK LR LI X) {t n9 : Nat} (i c n : Nat) (hq : (i, c, n) ∈ LK) : mK (nA X t n9) (z + i) = some (c, n) := kA (h.2.1 _ hq).2 (by have := (h.2.1 _ hq).1; have := h.1; omega)
theorem Dsm.n (h : Dsm z m LK LR LI X) (c : Nat) : Dsm z (m + 1) ((m, c, 0) :: LK) LR LI (nO X c) := by
  obtain ⟨h1, h2, h3, h4, h5, h6, h7⟩ := h
  refine ⟨(congrArg (· + 1) h1).trans rfl, fun q hq => ?_, fun q hq => ?_, fun q hq => ?_, fun k a e1 e2 => ?_, h6, h7.nO⟩
  · rcases List.mem_cons.mp hq with e | e
    · rw [e]
      exact ⟨Nat.lt_succ_self m, by rw [← h1]; exact mK_nO0⟩
    · have l := (h2 q e).1
      exact ⟨Nat.lt_succ_of_lt l, (mK_nO (by omega)).trans (h2 q e).2⟩
  · have l := (h3 q hq).1
    exact ⟨Nat.lt_succ_of_lt l, (mR_nO (by omega)).trans (h3 q hq).2⟩
  · have l := (h4 q hq).1
    exact ⟨Nat.lt_succ_of_lt l, (mI_nO (by omega)).trans (h4 q hq).2⟩
  · by_cases e : a = mZ X
    · rw [e]; exact mI_nO0
    · exact (mI_nO e).trans (h5 k a e1 e2)
theorem Dsm.w (h : Dsm z m LK LR LI X) (k i j : Nat) (hi : i < m) (hk : ∀ q ∈ LR, q.1 = k → q.2.1 ≠ i) : Dsm z m LK ((k, i, j) :: LR) LI (wR X k (z + i) (some (z + j))) := by
  obtain ⟨h1, h2, h3, h4, h5, h6, h7⟩ := h
  refine ⟨h1, h2, fun q hq => ?_, h4, h5, h6, h7.cg rfl rfl⟩
  rcases List.mem_cons.mp hq with e | e
  · rw [e]
    exact ⟨hi, by rw [mR_wR, if_pos ⟨rfl, rfl⟩]⟩
  · have l := (h3 q e).1
    refine ⟨l, ?_⟩
    rw [mR_wR, if_neg (fun y => hk q e y.1 (by have := y.2; omega))]
    exact (h3 q e).2
theorem Dsm.a (h : Dsm z m LK LR LI X) (t n : Nat) : Dsm z (m + 1) ((m, 20 + t, n) :: LK) LR LI (nA X t n) := by
  obtain ⟨h1, h2, h3, h4, h5, h6, h7⟩ := h
  refine ⟨(congrArg (· + 1) h1).trans rfl, fun q hq => ?_, fun q hq => ⟨Nat.lt_succ_of_lt (h3 q hq).1, (h3 q hq).2⟩, fun q hq => ⟨Nat.lt_succ_of_lt (h4 q hq).1, (h4 q hq).2⟩, h5, fun a j => ?_, h7.nA⟩
  · rcases List.mem_cons.mp hq with e | e
    · rw [e]
      exact ⟨Nat.lt_succ_self m, by rw [← h1]; exact if_pos rfl⟩
    · have l := (h2 q e).1
      exact ⟨Nat.lt_succ_of_lt l, kA (h2 q e).2 (by omega)⟩
  · by_cases e : a = mZ X
    · rw [e]; exact if_pos rfl
    · exact (if_neg e).trans (h6 a j)
theorem Dsm.l (h : Dsm z m LK LR LI X) (k t n i : Nat) (hi : i < m) (hk : ∀ q ∈ LR, q.1 = k → q.2.1 ≠ i) : Dsm z (m + 1) ((m, 20 + t, n) :: LK) ((k, i, m) :: LR) LI (wR (nA X t n) k (z + i) (some (z + m))) := (h.a t n).w k i m (Nat.lt_succ_of_lt hi) hk
theorem Dsm.wi (h : Dsm z m LK LR LI X) (k i : Nat) (v : Int32) (hi : i < m) (hk : k = 901 ∨ k = 902) (h9 : ∀ q ∈ LI, q.1 = k → q.2.1 ≠ i) : Dsm z m LK LR ((k, i, v) :: LI) (wI X k (z + i) v) := by
  obtain ⟨h1, h2, h3, h4, h5, h6, h7⟩ := h
  refine ⟨h1, h2, h3, fun q hq => ?_, fun k9 a e1 e2 => ?_, h6, h7.cg rfl rfl⟩
  · rcases List.mem_cons.mp hq with e | e
    · rw [e]
      exact ⟨hi, by rw [mI_wI, if_pos ⟨rfl, rfl⟩]⟩
    · refine ⟨(h4 q e).1, ?_⟩
      rw [mI_wI, if_neg (fun y => h9 q e y.1 (by have := y.2; omega))]
      exact (h4 q e).2
  · rw [mI_wI, if_neg (by omega)]
    exact h5 k9 a e1 e2
theorem Dsm.lt (h : Dsm z m LK LR LI X) {i c n : Nat} (hq : (i, c, n) ∈ LK) : i < m := (h.2.1 _ hq).1
theorem mem_tl {α : Type} {a b : α} {l : List α} (h : a ∈ l) : a ∈ b :: l := List.mem_cons.mpr (Or.inr h)
theorem no_tl {k k' i j : Nat} (hk : ∀ q ∈ LR, q.1 = k → q.2.1 ≠ i) (e : k' ≠ k) : ∀ q ∈ (k', i, j) :: LR, q.1 = k → q.2.1 ≠ i := fun q hq y => by
  rcases List.mem_cons.mp hq with e9 | e9
  · rw [e9] at y; exact absurd y e
  · exact hk q e9 y
theorem i_1 (h : Dsm z m LK LR LI X) (i : Nat) (hi : (i, 1, 0) ∈ LK) (h1 : ∀ q ∈ LR, q.1 = 100 → q.2.1 ≠ i) (h2 : ∀ q ∈ LR, q.1 = 101 → q.2.1 ≠ i) : ∃ X', fX1_init X (z + i) = some X' ∧ Dsm z (m + 1 + 1) ((m + 1, 21, 4) :: (m, 23, 30) :: LK) ((101, i, m + 1) :: (100, i, m) :: LR) LI X' := by
  have d1 := h.l 100 3 30 i (h.lt hi) h1
  unfold fX1_init
  rw [bi_some, bi_some, if_pos (h.q i 1 0 hi), h.1]
  generalize wR (nA X 3 30) 100 (z + i) (some (z + m)) = X1 at d1 ⊢
  have hi1 := mem_tl (b := (m, 23, 30)) hi
  rw [bi_some, bi_some, if_pos (d1.q i 1 0 hi1), d1.1]
  exact ⟨_, rfl, d1.l 101 1 4 i (d1.lt hi1) (no_tl h2 (by decide))⟩
theorem i_2 (h : Dsm z m LK LR LI X) (i : Nat) (hi : (i, 2, 0) ∈ LK) (h1 : ∀ q ∈ LR, q.1 = 200 → q.2.1 ≠ i) (h2 : ∀ q ∈ LR, q.1 = 201 → q.2.1 ≠ i) : ∃ X', fX2_init X (z + i) = some X' ∧ Dsm z (m + 1 + 1) ((m + 1, 20, 16) :: (m, 20, 16) :: LK) ((201, i, m + 1) :: (200, i, m) :: LR) LI X' := by
  have d1 := h.l 200 0 16 i (h.lt hi) h1
  unfold fX2_init
  rw [bi_some, bi_some, if_pos (h.q i 2 0 hi), h.1]
  generalize wR (nA X 0 16) 200 (z + i) (some (z + m)) = X1 at d1 ⊢
  have hi1 := mem_tl (b := (m, 20, 16)) hi
  rw [bi_some, bi_some, if_pos (d1.q i 2 0 hi1), d1.1]
  exact ⟨_, rfl, d1.l 201 0 16 i (d1.lt hi1) (no_tl h2 (by decide))⟩
theorem i_0 (h : Dsm z m LK LR LI X) (i : Nat) (hi : (i, 0, 0) ∈ LK) (h1 : ∀ q ∈ LR, q.1 = 0 → q.2.1 ≠ i) (h2 : ∀ q ∈ LR, q.1 = 1 → q.2.1 ≠ i) : ∃ X', fX0_init X (z + i) = some X' ∧ Dsm z (m + 1 + 1) ((m + 1, 20, 31) :: (m, 20, 31) :: LK) ((1, i, m + 1) :: (0, i, m) :: LR) LI X' := by
  have d1 := h.l 0 0 31 i (h.lt hi) h1
  unfold fX0_init
  rw [bi_some, bi_some, if_pos (h.q i 0 0 hi), h.1]
  generalize wR (nA X 0 31) 0 (z + i) (some (z + m)) = X1 at d1 ⊢
  have hi1 := mem_tl (b := (m, 20, 31)) hi
  rw [bi_some, bi_some, if_pos (d1.q i 0 0 hi1), d1.1]
  exact ⟨_, rfl, d1.l 1 0 31 i (d1.lt hi1) (no_tl h2 (by decide))⟩
theorem i_9 (h : Dsm z m LK LR [] X) (i : Nat) (hi : (i, 9, 0) ∈ LK) (h1 : ∀ q ∈ LR, q.1 = 900 → q.2.1 ≠ i) : ∃ X', fX9_init X (z + i) = some X' ∧ Dsm z (m + 1) ((m, 22, 40) :: LK) ((900, i, m) :: LR) [(902, i, 20), (901, i, 20)] X' := by
  have d1 := h.l 900 2 40 i (h.lt hi) h1
  unfold fX9_init
  rw [bi_some, bi_some, if_pos (h.q i 9 0 hi), h.1]
  have hi1 := d1.lt (mem_tl (b := (m, 22, 40)) hi)
  refine ⟨_, rfl, (d1.wi 901 i 20 hi1 (Or.inl rfl) (fun q hq => absurd hq List.not_mem_nil)).wi 902 i 20 hi1 (Or.inr rfl) (fun q hq y => ?_)⟩
  rcases List.mem_cons.mp hq with e9 | e9
  · rw [e9] at y; exact absurd (show (901 : Nat) = 902 from y) (by decide)
  · exact absurd e9 List.not_mem_nil
theorem i_7 (h : Dsm z m LK LR LI X) (i : Nat) (hi : (i, 7, 0) ∈ LK) (h0 : ∀ q ∈ LR, q.1 = 700 → q.2.1 ≠ i) (h1 : ∀ q ∈ LR, q.1 = 701 → q.2.1 ≠ i) (h2 : ∀ q ∈ LR, q.1 = 702 → q.2.1 ≠ i) (h3 : ∀ q ∈ LR, q.1 = 703 → q.2.1 ≠ i) (h4 : ∀ q ∈ LR, q.1 = 704 → q.2.1 ≠ i) (h5 : ∀ q ∈ LR, q.1 = 200 → q.2.1 ≠ m + 1 + 1 + 1 + 1) (h6 : ∀ q ∈ LR, q.1 = 201 → q.2.1 ≠ m + 1 + 1 + 1 + 1) (hne : i ≠ m + 1 + 1 + 1 + 1) : ∃ X', fX7_init X (z + i) = some X' ∧ Dsm z (m + 7) ((m + 6, 20, 16) :: (m + 5, 20, 16) :: (m + 4, 2, 0) :: (m + 3, 20, 8) :: (m + 2, 20, 270) :: (m + 1, 20, 4) :: (m, 8, 0) :: LK) ((704, i, m + 4) :: (201, m + 4, m + 6) :: (200, m + 4, m + 5) :: (703, i, m + 3) :: (702, i, m + 2) :: (701, i, m + 1) :: (700, i, m) :: LR) LI X' := by
  have hl := h.lt hi
  have d1 := h.n 8
  unfold fX7_init fX8_init
  rw [bi_some, bi_some, bi_some, h.1]
  generalize nO X 8 = X5 at d1 ⊢
  have m1 := mem_tl (b := (m, 8, 0)) hi
  rw [if_pos (d1.k i 7 0 m1)]
  have d2 := d1.w 700 i m (by omega) h0
  generalize wR X5 700 (z + i) (some (z + m)) = X6 at d2 ⊢
  have d3 := d2.l 701 0 4 i (by omega) (no_tl h1 (by decide))
  rw [bi_some, bi_some, if_pos (d2.q i 7 0 m1), d2.1]
  generalize wR (nA X6 0 4) 701 (z + i) (some (z + (m + 1))) = X17 at d3 ⊢
  have m2 := mem_tl (b := (m + 1, 20, 4)) m1
  have d4 := d3.l 702 0 270 i (by omega) (no_tl (no_tl h2 (by decide)) (by decide))
  rw [bi_some, bi_some, if_pos (d3.q i 7 0 m2), d3.1]
  generalize wR (nA X17 0 270) 702 (z + i) (some (z + (m + 1 + 1))) = X26 at d4 ⊢
  have m3 := mem_tl (b := (m + 1 + 1, 20, 270)) m2
  have d5 := d4.l 703 0 8 i (by omega) (no_tl (no_tl (no_tl h3 (by decide)) (by decide)) (by decide))
  rw [bi_some, bi_some, if_pos (d4.q i 7 0 m3), d4.1]
  generalize wR (nA X26 0 8) 703 (z + i) (some (z + (m + 1 + 1 + 1))) = X34 at d5 ⊢
  have m4 := mem_tl (b := (m + 1 + 1 + 1, 20, 8)) m3
  have d6 := d5.n 2
  rw [bi_some, bi_some, d5.1]
  generalize nO X34 2 = X40 at d6 ⊢
  have nn : ∀ k, k < 300 → (∀ q ∈ LR, q.1 = k → q.2.1 ≠ m + 1 + 1 + 1 + 1) → ∀ q ∈ (703, i, m + 1 + 1 + 1) :: (702, i, m + 1 + 1) :: (701, i, m + 1) :: (700, i, m) :: LR, q.1 = k → q.2.1 ≠ m + 1 + 1 + 1 + 1 := fun k hk hq q hm y => by
    rcases List.mem_cons.mp hm with e | hm
    · rw [e]; exact hne
    · rcases List.mem_cons.mp hm with e | hm
      · rw [e]; exact hne
      · rcases List.mem_cons.mp hm with e | hm
        · rw [e]; exact hne
        · rcases List.mem_cons.mp hm with e | hm
          · rw [e]; exact hne
          · exact hq q hm y
  obtain ⟨X44, e, d7⟩ := i_2 d6 (m + 1 + 1 + 1 + 1) (List.mem_cons.mpr (Or.inl rfl)) (nn 200 (by decide) h5) (nn 201 (by decide) h6)
  have m5 := mem_tl (b := (m + 1 + 1 + 1 + 1 + 1 + 1, 20, 16)) (mem_tl (b := (m + 1 + 1 + 1 + 1 + 1, 20, 16)) (mem_tl (b := (m + 1 + 1 + 1 + 1, 2, 0)) m4))
  rw [e, bi_some, if_pos (d7.k i 7 0 m5)]
  have d8 := d7.w 704 i (m + 1 + 1 + 1 + 1) (by omega) (fun q hm y => by
    rcases List.mem_cons.mp hm with e9 | hm
    · rw [e9] at y; exact absurd (show (201 : Nat) = 704 from y) (by decide)
    · rcases List.mem_cons.mp hm with e9 | hm
      · rw [e9] at y; exact absurd (show (200 : Nat) = 704 from y) (by decide)
      · exact no_tl (no_tl (no_tl (no_tl h4 (by decide)) (by decide)) (by decide)) (by decide) q hm y)
  exact ⟨_, rfl, d8⟩
end DSM
def lkF : List (Nat × Nat × Nat) := [(22, 26, 24), (21, 25, 6), (20, 24, 30), (19, 22, 40), (18, 9, 0), (17, 20, 31), (16, 20, 31), (15, 0, 0), (14, 20, 16), (13, 20, 16), (12, 2, 0), (11, 20, 16), (10, 20, 16), (9, 2, 0), (8, 20, 8), (7, 20, 270), (6, 20, 4), (5, 8, 0), (4, 7, 0), (3, 21, 4), (2, 23, 30), (1, 1, 0), (0, 11, 0)]
def lrF : List (Nat × Nat × Nat) := [(1107, 0, 22), (1106, 0, 21), (1105, 0, 20), (1104, 0, 18), (900, 18, 19), (1103, 0, 15), (1, 15, 17), (0, 15, 16), (1102, 0, 12), (201, 12, 14), (200, 12, 13), (1101, 0, 4), (704, 4, 9), (201, 9, 11), (200, 9, 10), (703, 4, 8), (702, 4, 7), (701, 4, 6), (700, 4, 5), (1100, 0, 1), (101, 1, 3), (100, 1, 2)]
theorem Dsm_0 {z : Nat} : Dsm z 0 [] [] [] (E0 z) := ⟨rfl, fun q h => absurd h List.not_mem_nil, fun q h => absurd h List.not_mem_nil, fun q h => absurd h List.not_mem_nil, fun _ _ _ _ => rfl, fun _ _ => rfl, fun a h => absurd rfl h⟩
theorem x_init {z : Nat} : ∃ X1, fX11_init (nO (E0 z) 11) (z + 0) = some X1 ∧ Dsm z 23 lkF lrF [(902, 18, 20), (901, 18, 20)] X1 := by
  have D : Dsm z 1 [(0, 11, 0)] [] [] (nO (E0 z) 11) := Dsm_0.n 11
  generalize nO (E0 z) 11 = X0 at D ⊢
  unfold fX11_init
  have D1 : Dsm z 2 [(1, 1, 0), (0, 11, 0)] [] [] (nO X0 1) := D.n 1
  rw [bi_some, bi_some, D.1]
  generalize nO X0 1 = X5 at D1 ⊢
  obtain ⟨X9, e, D2⟩ := i_1 D1 1 (by decide) (by decide) (by decide)
  replace D2 : Dsm z 4 [(3, 21, 4), (2, 23, 30), (1, 1, 0), (0, 11, 0)] [(101, 1, 3), (100, 1, 2)] [] X9 := D2
  rw [e, bi_some, if_pos (D2.k 0 11 0 (by decide))]
  have D3 := D2.w 1100 0 1 (by decide) (by decide)
  generalize wR X9 1100 (z + 0) (some (z + 1)) = X10 at D3 ⊢
  have D4 : Dsm z 5 [(4, 7, 0), (3, 21, 4), (2, 23, 30), (1, 1, 0), (0, 11, 0)] [(1100, 0, 1), (101, 1, 3), (100, 1, 2)] [] (nO X10 7) := D3.n 7
  rw [bi_some, bi_some, D3.1]
  generalize nO X10 7 = X16 at D4 ⊢
  obtain ⟨X20, e, D5⟩ := i_7 D4 4 (by decide) (by decide) (by decide) (by decide) (by decide) (by decide) (by decide) (by decide) (by decide)
  replace D5 : Dsm z 12 [(11, 20, 16), (10, 20, 16), (9, 2, 0), (8, 20, 8), (7, 20, 270), (6, 20, 4), (5, 8, 0), (4, 7, 0), (3, 21, 4), (2, 23, 30), (1, 1, 0), (0, 11, 0)] [(704, 4, 9), (201, 9, 11), (200, 9, 10), (703, 4, 8), (702, 4, 7), (701, 4, 6), (700, 4, 5), (1100, 0, 1), (101, 1, 3), (100, 1, 2)] [] X20 := D5
  rw [e, bi_some, if_pos (D5.k 0 11 0 (by decide))]
  have D6 := D5.w 1101 0 4 (by decide) (by decide)
  generalize wR X20 1101 (z + 0) (some (z + 4)) = X21 at D6 ⊢
  have D7 : Dsm z 13 ((12, 2, 0) :: _) _ [] (nO X21 2) := D6.n 2
  rw [bi_some, bi_some, D6.1]
  generalize nO X21 2 = X27 at D7 ⊢
  obtain ⟨X31, e, D8⟩ := i_2 D7 12 (by decide) (by decide) (by decide)
  replace D8 : Dsm z 15 ((14, 20, 16) :: (13, 20, 16) :: _) ((201, 12, 14) :: (200, 12, 13) :: _) [] X31 := D8
  rw [e, bi_some, if_pos (D8.k 0 11 0 (by decide))]
  have D9 := D8.w 1102 0 12 (by decide) (by decide)
  generalize wR X31 1102 (z + 0) (some (z + 12)) = X32 at D9 ⊢
  have D10 : Dsm z 16 ((15, 0, 0) :: _) _ [] (nO X32 0) := D9.n 0
  rw [bi_some, bi_some, D9.1]
  generalize nO X32 0 = X38 at D10 ⊢
  obtain ⟨X42, e, D11⟩ := i_0 D10 15 (by decide) (by decide) (by decide)
  replace D11 : Dsm z 18 ((17, 20, 31) :: (16, 20, 31) :: _) ((1, 15, 17) :: (0, 15, 16) :: _) [] X42 := D11
  rw [e, bi_some, if_pos (D11.k 0 11 0 (by decide))]
  have D12 := D11.w 1103 0 15 (by decide) (by decide)
  generalize wR X42 1103 (z + 0) (some (z + 15)) = X43 at D12 ⊢
  have D13 : Dsm z 19 ((18, 9, 0) :: _) _ [] (nO X43 9) := D12.n 9
  rw [bi_some, bi_some, D12.1]
  generalize nO X43 9 = X49 at D13 ⊢
  obtain ⟨X53, e, D14⟩ := i_9 D13 18 (by decide) (by decide)
  replace D14 : Dsm z 20 ((19, 22, 40) :: _) ((900, 18, 19) :: _) [(902, 18, 20), (901, 18, 20)] X53 := D14
  rw [e, bi_some, if_pos (D14.k 0 11 0 (by decide))]
  have D15 := D14.w 1104 0 18 (by decide) (by decide)
  generalize wR X53 1104 (z + 0) (some (z + 18)) = X54 at D15 ⊢
  rw [bi_some, bi_some, if_pos (D15.q 0 11 0 (by decide)), D15.1]
  have D16 : Dsm z 21 ((20, 24, 30) :: _) ((1105, 0, 20) :: _) [(902, 18, 20), (901, 18, 20)] (wR (nA X54 4 30) 1105 (z + 0) (some (z + 20))) := D15.l 1105 4 30 0 (by decide) (by decide)
  generalize wR (nA X54 4 30) 1105 (z + 0) (some (z + 20)) = X63 at D16 ⊢
  rw [bi_some, bi_some, if_pos (D16.q 0 11 0 (by decide)), D16.1]
  have D17 : Dsm z 22 ((21, 25, 6) :: _) ((1106, 0, 21) :: _) [(902, 18, 20), (901, 18, 20)] (wR (nA X63 5 6) 1106 (z + 0) (some (z + 21))) := D16.l 1106 5 6 0 (by decide) (by decide)
  generalize wR (nA X63 5 6) 1106 (z + 0) (some (z + 21)) = X72 at D17 ⊢
  rw [bi_some, bi_some, if_pos (D17.q 0 11 0 (by decide)), D17.1]
  exact ⟨_, rfl, D17.l 1107 6 24 0 (by decide) (by decide)⟩
def offA (i : Nat) : Nat := [0, 1, 4, 12, 15, 18, 20, 21, 22, 2, 3, 5, 6, 7, 8, 13, 14, 0, 0, 19].getD i 0
def rof (a : Nat) : Nat := [0, 1, 9, 10, 2, 11, 12, 13, 14, 50, 50, 50, 3, 15, 16, 4, 17, 17, 5, 19, 6, 7, 8].getD a 50
theorem rof_K : ∀ q ∈ bK, (offA q.1, q.2) ∈ lkF ∧ rof (offA q.1) = q.1 := by decide
theorem rof_R : ∀ q ∈ bR, (q.1, offA q.2.1, offA q.2.2) ∈ lrF := by decide
theorem m_init (z : Nat) : ∃ X1, fX11_init (nO (E0 z) 11) z = some X1 ∧ StX z (fun _ => 0) (fun _ => 0) (fun _ => 0) (fun _ => 0) 0 0 (fun _ => (fun _ => 0, fun _ => 0, fun _ => 0, fun _ => 0, 0, 0, 0, 0, 0, 0, 0)) 0 (fun _ => 0) (fun _ => 0) (fun _ => 0) 0 (fun _ => 0) (fun _ => 0) (fun _ => 0) (fun _ => none) 20 20 X1 ∧ RelP (fun _ => 0) (fun _ => 0) (fun _ => 0) (fun _ => 0) 0 0 (fun _ => (fun _ => 0, fun _ => 0, fun _ => 0, fun _ => 0, 0, 0, 0, 0, 0, 0, 0)) 0 (fun _ => 0) 0 (fun _ => 0) (fun _ => 0) (fun _ => 0) (fun _ => none) 20 20 := by
  obtain ⟨X1, e, D⟩ := x_init (z := z)
  have e : fX11_init (nO (E0 z) 11) z = some X1 := e
  have hI : ∀ k a, k ≠ 901 → k ≠ 902 → mI X1 k a = 0 := D.2.2.2.2.1
  have hA : ∀ a j, aI X1 a j = 0 := D.2.2.2.2.2.1
  have hR : ∀ k i j, (k, i, j) ∈ lrF → mR X1 k (z + i) = some (z + j) := fun k i j h => (D.2.2.1 _ h).2
  have nl : ∀ {i : Nat} {P : Prop}, i < 0 → P := fun h => absurd h (Nat.not_lt_zero _)
  have B : BaseX (fun i => z + offA i) (fun a => rof (a - z)) X1 := by
    refine ⟨fun q hq => ⟨(D.2.1 _ (rof_K q hq).1).2, ?_⟩, fun q hq => hR _ _ _ (rof_R q hq), z + 16, z + 17, hR 0 15 16 (by decide), hR 1 15 17 (by decide), D.k 16 20 31 (by decide), D.k 17 20 31 (by decide), by omega, ?_, ?_⟩
    · show rof (z + offA q.1 - z) = q.1
      rw [Nat.add_sub_cancel_left]
      exact (rof_K q hq).2
    · show rof (z + 16 - z) = 17
      rw [Nat.add_sub_cancel_left]
      rfl
    · show rof (z + 17 - z) = 17
      rw [Nat.add_sub_cancel_left]
      rfl
  have hD : DrfX (fun i => z + offA i) (fun a => rof (a - z)) (fun _ => 0) (fun _ => 0) (fun _ => 0) (fun _ => 0) 0 X1 := ⟨fun _ => 0, ⟨B.k 1 1 0 (by decide), B.r 100 1 9 (by decide), B.k 9 23 30 (by decide), hI 102 _ (by decide) (by decide), fun i hi => nl hi⟩, fun i hi => nl hi, hI 103 _ (by decide) (by decide), fun t _ => Or.inr ⟨hA _ _, fun ⟨i, hi, _⟩ => Nat.not_lt_zero i hi⟩⟩
  refine ⟨X1, e, ⟨D.2.2.2.2.2.2, fun i => z + offA i, fun a => rof (a - z), fun _ => 0, fun _ => 0, fun _ => 0, rfl, ?_⟩, ?_⟩
  · exact ⟨B, hD, ⟨hI 1108 _ (by decide) (by decide), fun p hp => nl hp⟩, ⟨hI 1109 _ (by decide) (by decide), fun i j hi => nl hi, fun i hi => nl hi⟩, ⟨hI 1110 _ (by decide) (by decide), fun i j hi => nl hi, fun i hi => nl hi⟩, ⟨(D.2.2.2.1 (901, 18, 20) (by decide)).2, (D.2.2.2.1 (902, 18, 20) (by decide)).2⟩, fun w hw => nl hw⟩
  · exact ⟨DrfP_0, ⟨Nat.zero_le _, fun p hp => nl hp⟩, ⟨Nat.zero_le _, fun p hp => nl hp⟩, ⟨Nat.zero_le _, fun p hp => nl hp, fun _ _ => Or.inl rfl, fun _ _ _ => rfl⟩, by decide, by decide, by decide, by decide⟩
