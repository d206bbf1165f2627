/-! the start of both sides -/
def lkF : List (Nat × Nat × Nat) := [(22, 26, 24), (21, 25, 6), (20, 24, 30), (19, 22, 40), (18, 9, 0), (17, 20, 31), (16, 20, 31), (15, 0, 0), (14, 20, 16), (13, 20, 16), (12, 2, 0), (11, 20, 16), (10, 20, 16), (9, 2, 0), (8, 20, 8), (7, 20, 270), (6, 20, 4), (5, 8, 0), (4, 7, 0), (3, 21, 4), (2, 23, 30), (1, 1, 0), (0, 11, 0)]
def lrF : List (Nat × Nat × Nat) := [(1107, 0, 22), (1106, 0, 21), (1105, 0, 20), (1104, 0, 18), (900, 18, 19), (1103, 0, 15), (1, 15, 17), (0, 15, 16), (1102, 0, 12), (201, 12, 14), (200, 12, 13), (1101, 0, 4), (704, 4, 9), (201, 9, 11), (200, 9, 10), (703, 4, 8), (702, 4, 7), (701, 4, 6), (700, 4, 5), (1100, 0, 1), (101, 1, 3), (100, 1, 2)]
theorem Dsm_0 {z : Nat} : Dsm z 0 [] [] [] (E0 z) := ⟨rfl, fun q h => absurd h List.not_mem_nil, fun q h => absurd h List.not_mem_nil, fun q h => absurd h List.not_mem_nil, fun _ _ _ _ => rfl, fun _ _ => rfl, fun a h => absurd rfl h⟩
theorem x_init {z : Nat} : ∃ X1, fX11_init (nO (E0 z) 11) (z + 0) = some X1 ∧ Dsm z 23 lkF lrF [(902, 18, 20), (901, 18, 20)] X1 := by
  have D : Dsm z 1 [(0, 11, 0)] [] [] (nO (E0 z) 11) := Dsm_0.n 11
  generalize nO (E0 z) 11 = X0 at D ⊢
  unfold fX11_init
  have D1 : Dsm z 2 [(1, 1, 0), (0, 11, 0)] [] [] (nO X0 1) := D.n 1
  rw [bi_some, bi_some, D.1]
  generalize nO X0 1 = X5 at D1 ⊢
  obtain ⟨X9, e, D2⟩ := i_1 D1 1 (by decide) (by decide) (by decide)
  replace D2 : Dsm z 4 [(3, 21, 4), (2, 23, 30), (1, 1, 0), (0, 11, 0)] [(101, 1, 3), (100, 1, 2)] [] X9 := D2
  rw [e, bi_some, if_pos (D2.k 0 11 0 (by decide))]
  have D3 := D2.w 1100 0 1 (by decide) (by decide)
  generalize wR X9 1100 (z + 0) (some (z + 1)) = X10 at D3 ⊢
  have D4 : Dsm z 5 [(4, 7, 0), (3, 21, 4), (2, 23, 30), (1, 1, 0), (0, 11, 0)] [(1100, 0, 1), (101, 1, 3), (100, 1, 2)] [] (nO X10 7) := D3.n 7
  rw [bi_some, bi_some, D3.1]
  generalize nO X10 7 = X16 at D4 ⊢
  obtain ⟨X20, e, D5⟩ := i_7 D4 4 (by decide) (by decide) (by decide) (by decide) (by decide) (by decide) (by decide) (by decide) (by decide)
  replace D5 : Dsm z 12 [(11, 20, 16), (10, 20, 16), (9, 2, 0), (8, 20, 8), (7, 20, 270), (6, 20, 4), (5, 8, 0), (4, 7, 0), (3, 21, 4), (2, 23, 30), (1, 1, 0), (0, 11, 0)] [(704, 4, 9), (201, 9, 11), (200, 9, 10), (703, 4, 8), (702, 4, 7), (701, 4, 6), (700, 4, 5), (1100, 0, 1), (101, 1, 3), (100, 1, 2)] [] X20 := D5
  rw [e, bi_some, if_pos (D5.k 0 11 0 (by decide))]
  have D6 := D5.w 1101 0 4 (by decide) (by decide)
  generalize wR X20 1101 (z + 0) (some (z + 4)) = X21 at D6 ⊢
  have D7 : Dsm z 13 ((12, 2, 0) :: _) _ [] (nO X21 2) := D6.n 2
  rw [bi_some, bi_some, D6.1]
  generalize nO X21 2 = X27 at D7 ⊢
  obtain ⟨X31, e, D8⟩ := i_2 D7 12 (by decide) (by decide) (by decide)
  replace D8 : Dsm z 15 ((14, 20, 16) :: (13, 20, 16) :: _) ((201, 12, 14) :: (200, 12, 13) :: _) [] X31 := D8
  rw [e, bi_some, if_pos (D8.k 0 11 0 (by decide))]
  have D9 := D8.w 1102 0 12 (by decide) (by decide)
  generalize wR X31 1102 (z + 0) (some (z + 12)) = X32 at D9 ⊢
  have D10 : Dsm z 16 ((15, 0, 0) :: _) _ [] (nO X32 0) := D9.n 0
  rw [bi_some, bi_some, D9.1]
  generalize nO X32 0 = X38 at D10 ⊢
  obtain ⟨X42, e, D11⟩ := i_0 D10 15 (by decide) (by decide) (by decide)
  replace D11 : Dsm z 18 ((17, 20, 31) :: (16, 20, 31) :: _) ((1, 15, 17) :: (0, 15, 16) :: _) [] X42 := D11
  rw [e, bi_some, if_pos (D11.k 0 11 0 (by decide))]
  have D12 := D11.w 1103 0 15 (by decide) (by decide)
  generalize wR X42 1103 (z + 0) (some (z + 15)) = X43 at D12 ⊢
  have D13 : Dsm z 19 ((18, 9, 0) :: _) _ [] (nO X43 9) := D12.n 9
  rw [bi_some, bi_some, D12.1]
  generalize nO X43 9 = X49 at D13 ⊢
  obtain ⟨X53, e, D14⟩ := i_9 D13 18 (by decide) (by decide)
  replace D14 : Dsm z 20 ((19, 22, 40) :: _) ((900, 18, 19) :: _) [(902, 18, 20), (901, 18, 20)] X53 := D14
  rw [e, bi_some, if_pos (D14.k 0 11 0 (by decide))]
  have D15 := D14.w 1104 0 18 (by decide) (by decide)
  generalize wR X53 1104 (z + 0) (some (z + 18)) = X54 at D15 ⊢
  rw [bi_some, bi_some, if_pos (D15.q 0 11 0 (by decide)), D15.1]
  have D16 : Dsm z 21 ((20, 24, 30) :: _) ((1105, 0, 20) :: _) [(902, 18, 20), (901, 18, 20)] (wR (nA X54 4 30) 1105 (z + 0) (some (z + 20))) := D15.l 1105 4 30 0 (by decide) (by decide)
  generalize wR (nA X54 4 30) 1105 (z + 0) (some (z + 20)) = X63 at D16 ⊢
  rw [bi_some, bi_some, if_pos (D16.q 0 11 0 (by decide)), D16.1]
  have D17 : Dsm z 22 ((21, 25, 6) :: _) ((1106, 0, 21) :: _) [(902, 18, 20), (901, 18, 20)] (wR (nA X63 5 6) 1106 (z + 0) (some (z + 21))) := D16.l 1106 5 6 0 (by decide) (by decide)
  generalize wR (nA X63 5 6) 1106 (z + 0) (some (z + 21)) = X72 at D17 ⊢
  rw [bi_some, bi_some, if_pos (D17.q 0 11 0 (by decide)), D17.1]
  exact ⟨_, rfl, D17.l 1107 6 24 0 (by decide) (by decide)⟩
def offA (i : Nat) : Nat := [0, 1, 4, 12, 15, 18, 20, 21, 22, 2, 3, 5, 6, 7, 8, 13, 14, 0, 0, 19].getD i 0
def rof (a : Nat) : Nat := [0, 1, 9, 10, 2, 11, 12, 13, 14, 50, 50, 50, 3, 15, 16, 4, 17, 17, 5, 19, 6, 7, 8].getD a 50
theorem rof_K : ∀ q ∈ bK, (offA q.1, q.2) ∈ lkF ∧ rof (offA q.1) = q.1 := by decide
theorem rof_R : ∀ q ∈ bR, (q.1, offA q.2.1, offA q.2.2) ∈ lrF := by decide
theorem t_init : RelInit Rel := by
  intro z
  obtain ⟨X1, e, D⟩ := x_init (z := z)
  have e : fX11_init (nO (E0 z) 11) z = some X1 := e
  have hI : ∀ k a, k ≠ 901 → k ≠ 902 → mI X1 k a = 0 := D.2.2.2.2.1
  have hA : ∀ a j, aI X1 a j = 0 := D.2.2.2.2.2.1
  have hR : ∀ k i j, (k, i, j) ∈ lrF → mR X1 k (z + i) = some (z + j) := fun k i j h => (D.2.2.1 _ h).2
  have nl : ∀ {i : Nat} {P : Prop}, i < 0 → P := fun h => absurd h (Nat.not_lt_zero _)
  have B : BaseX (fun i => z + offA i) (fun a => rof (a - z)) X1 := by
    refine ⟨fun q hq => ⟨(D.2.1 _ (rof_K q hq).1).2, ?_⟩, fun q hq => hR _ _ _ (rof_R q hq), z + 16, z + 17, hR 0 15 16 (by decide), hR 1 15 17 (by decide), D.k 16 20 31 (by decide), D.k 17 20 31 (by decide), by omega, ?_, ?_⟩
    · show rof (z + offA q.1 - z) = q.1
      rw [Nat.add_sub_cancel_left]
      exact (rof_K q hq).2
    · show rof (z + 16 - z) = 17
      rw [Nat.add_sub_cancel_left]
      rfl
    · show rof (z + 17 - z) = 17
      rw [Nat.add_sub_cancel_left]
      rfl
  have hD : DrfX (fun i => z + offA i) (fun a => rof (a - z)) (fun _ => 0) (fun _ => 0) (fun _ => 0) (fun _ => 0) 0 X1 := ⟨fun _ => 0, ⟨B.k 1 1 0 (by decide), B.r 100 1 9 (by decide), B.k 9 23 30 (by decide), hI 102 _ (by decide) (by decide), fun i hi => nl hi⟩, fun i hi => nl hi, hI 103 _ (by decide) (by decide), fun t _ => Or.inr ⟨hA _ _, fun ⟨i, hi, _⟩ => Nat.not_lt_zero i hi⟩⟩
  refine ⟨X1, e, ⟨fun i => z + offA i, fun a => rof (a - z), fun _ => 0, fun _ => 0, fun _ => 0, fun _ => 0, fun _ => 0, fun _ => 0, fun _ => 0, 0, 0, fun _ => (fun _ => 0, fun _ => 0, fun _ => 0, fun _ => 0, 0, 0, 0, 0, 0, 0, 0), 0, fun _ => 0, fun _ => 0, fun _ => 0, 0, fun _ => 0, fun _ => 0, fun _ => 0, fun _ => none, 20, 20, rfl, ?_, ?_, ?_⟩, D.2.2.2.2.2.2⟩
  · exact ⟨B, hD, ⟨hI 1108 _ (by decide) (by decide), fun p hp => nl hp⟩, ⟨hI 1109 _ (by decide) (by decide), fun i j hi => nl hi, fun i hi => nl hi⟩, ⟨hI 1110 _ (by decide) (by decide), fun i j hi => nl hi, fun i hi => nl hi⟩, ⟨(D.2.2.2.1 (901, 18, 20) (by decide)).2, (D.2.2.2.1 (902, 18, 20) (by decide)).2⟩, fun w hw => nl hw⟩
  · exact ⟨DrfS_0 rfl rfl rfl, ⟨rfl, fun p hp => nl hp⟩, ⟨rfl, fun p hp => nl hp⟩, ⟨rfl, fun p hp => nl hp, fun w _ => rfl⟩, ⟨rfl, rfl⟩, rfl⟩
  · exact ⟨DrfP_0, ⟨Nat.zero_le _, fun p hp => nl hp⟩, ⟨Nat.zero_le _, fun p hp => nl hp⟩, ⟨Nat.zero_le _, fun p hp => nl hp, fun _ _ => Or.inl rfl, fun _ _ _ => rfl⟩, by decide, by decide, by decide, by decide⟩
