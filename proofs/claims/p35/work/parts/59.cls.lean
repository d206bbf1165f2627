/-! all looks; the whole run of the class -/
section CLP
variable {g : Nat → Nat} {K T V N : Nat → Int32} {n ms : Nat} {cl : Nat → Nat}
/-- what a run comes to, within its bound -/
def OutR (g : Nat → Nat) (ms : Nat) (X : Mem) (s : Cor) : Prop := (CQ g ms X s ∧ cC s ≤ ms) ∨ Stop g ms X s
theorem c_loop {fu : Nat} (hP : VP K T V N n) (hcl : ClOK K n cl) (hms : ms ≤ 600) (hfu : 2000 ≤ fu) : ∀ (L i look m : Nat) (st : Stk) (s : Cor) (X : Mem), RG g K T V N n cl (wsF K T n) X → BI K n i st s → CQ g ms X s → CS g X st → cF s = 0 → cC s ≤ ms → PSI K n i st (cC s) < L → look + L ≤ 100000 →
    ∃ X', fX7_perform_L65 fu (m + L + 1) X (g 0) (some (g 8)) (nI i) (nI look) = some X' ∧ FR g X X' ∧ OutR g ms X' (rnB K T V N n cl (wsF K T n) L (i, st, s)).2.2 := by
  intro L
  induction L with
  | zero => intro i look m st s X hG hB hQ hS hf hc hL; exact absurd hL (Nat.not_lt_zero _)
  | succ L ih =>
    intro i look m st s X hG hB hQ hS hf hc hL hlk
    have hn := hP.1
    show ∃ X', fX7_perform_L65b fu (fX7_perform_L65 fu (m + L + 1)) X (g 0) (some (g 8)) (nI i) (nI look) = some X' ∧ _
    unfold fX7_perform_L65b
    have hle := hB.1
    rw [if_neg (show ¬ (100000 : Int32) ≤ nI look from fun q => by have := (nI_leI (by omega : 100000 < 2 ^ 31) (by omega)).mp q; omega), if_neg (nI_pos (by omega)), bi_some, if_pos hG.k8, c_length hG, bi_some]
    by_cases hi : i < n
    · rw [if_neg (fun q => by have := (nI_leI (by omega) (by omega)).mp q; omega), if_pos hG.k0, rnB_on (b := (i, st, s)) ⟨hi, hf⟩]
      obtain ⟨r, X1, w1, w2, w3⟩ := c_follow hP hcl hms hfu hi hG hB hQ hS hf hc
      obtain ⟨b1, b2, b3⟩ := stB_ok hP hcl (wsF_ok hP) hi hB
      rw [w1, bW_some, nI_1]
      have off : ∀ (mm : Nat), fX7_perform_L65 fu (mm + 1) X1 (g 0) (some (g 8)) (-1) (nI (look + 1)) = some X1 := by
        intro mm
        show fX7_perform_L65b fu (fX7_perform_L65 fu mm) X1 (g 0) (some (g 8)) (-1) (nI (look + 1)) = _
        unfold fX7_perform_L65b
        by_cases h9 : (100000 : Int32) ≤ nI (look + 1)
        · rw [if_pos h9]
        · rw [if_neg h9, if_pos (by decide)]
      rcases w3 with ⟨rfl, a1, a2, a3, a4⟩ | ⟨rfl, a1, a2, a3⟩ | ⟨rfl, a1⟩
      · obtain ⟨X2, z1, z2, z3⟩ := ih _ (look + 1) m _ _ X1 (hG.fr w2) b1 a1 a2 a3 a4 (Nat.lt_of_lt_of_le (b3 a3) (Nat.le_of_lt_succ hL)) (by omega)
        exact ⟨X2, z1, w2.trans z2, z3⟩
      · rw [rnB_off (fun q => a2 q.2)]
        exact ⟨X1, off _, w2, Or.inl ⟨a1, a3⟩⟩
      · refine ⟨X1, off _, w2, Or.inr (a1.mon ?_)⟩
        exact rnB_mon hP hcl L _ b1
    · rw [if_pos ((nI_leI (by omega) (by omega)).mpr (by omega)), rnB_off (fun q => hi q.1)]
      exact ⟨X, rfl, FR.rfl9, Or.inl ⟨hQ, hc⟩⟩
/-- the names are laid at 0, then the looks -/
theorem c_names {fu : Nat} (hP : VP K T V N n) (hcl : ClOK K n cl) (hms : ms ≤ 600) (hfu : 200000 ≤ fu) : ∀ (t k m : Nat) (X : Mem), k + t = 4 → RG g K T V N n cl (wsF K T n) X → (∀ X1, FR g X X1 → (∀ j, mI X1 j = mI X j) → aI X1 (g 3) = aI X (g 3) → aI X1 (g 4) = aI X (g 4) → aI X1 (g 6) = aI X (g 6) → aI X1 (g 7) = aI X (g 7) → (∀ j, j < 4 → aI X1 (g 2) j = if k ≤ j then 0 else aI X (g 2) j) → CQ g ms X1 c0B ∧ CS g X1 []) →
    ∃ X', fX7_perform_L35 fu (m + t + 1) X (g 0) (some (g 8)) (nI k) = some X' ∧ FR g X X' ∧ OutR g ms X' (rnB K T V N n cl (wsF K T n) 81737 (0, [], c0B)).2.2 := by
  intro t
  induction t with
  | zero =>
    intro k m X hk hG h
    have hk : k = 4 := hk
    subst hk
    show ∃ X', fX7_perform_L35b fu (fX7_perform_L35 fu m) X (g 0) (some (g 8)) (nI 4) = some X' ∧ _
    unfold fX7_perform_L35b
    rw [if_pos hG.k0, hG.r701, bi_some, alen_of hG.k2 (by decide), bi_some, if_pos (Int32.le_refl _)]
    obtain ⟨q1, q2⟩ := h X FR.rfl9 (fun _ => rfl) rfl rfl rfl rfl (fun j hj => by rw [if_neg (by omega)])
    obtain ⟨X', z1, z2, z3⟩ := c_loop (ms := ms) (fu := fu) hP hcl hms (by omega) 81737 0 0 (fu - 81738) [] c0B X hG c0_BI q1 q2 rfl (Nat.zero_le _) (c0_PSI hP) (by decide)
    rw [show fu - 81738 + 81737 + 1 = fu by omega] at z1
    exact ⟨X', z1, z2, z3⟩
  | succ t ih =>
    intro k m X hk hG h
    show ∃ X', fX7_perform_L35b fu (fX7_perform_L35 fu (m + t + 1)) X (g 0) (some (g 8)) (nI k) = some X' ∧ _
    unfold fX7_perform_L35b
    rw [if_pos hG.k0, hG.r701, bi_some, alen_of hG.k2 (by decide), bi_some, if_neg (fun q => by have := (nI_leI (by omega) (by omega)).mp q; omega), bi_some, if_pos (inb_of (t := 0) hG.k2 (by omega : k < 4) (by omega)), nI_clamp (by omega), nI_1]
    have fr : FR g X (sI X (g 2) k 0) := FR.sI (Or.inl rfl)
    obtain ⟨X', z1, z2, z3⟩ := ih (k + 1) m (sI X (g 2) k 0) (by omega) (hG.fr fr) (fun X1 f1 f2 f3 f4 f6 f7 f8 => h X1 (fr.trans f1) f2 (f3.trans (aI_o (hG.ne 3 2 (by decide) (by decide) (by decide)))) (f4.trans (aI_o (hG.ne 4 2 (by decide) (by decide) (by decide)))) (f6.trans (aI_o (hG.ne 6 2 (by decide) (by decide) (by decide)))) (f7.trans (aI_o (hG.ne 7 2 (by decide) (by decide) (by decide)))) (fun j hj => by
      rw [f8 j hj, aI_sI]
      by_cases e : k + 1 ≤ j
      · rw [if_pos e, if_pos (show k ≤ j by omega)]
      · rw [if_neg e]
        by_cases e2 : j = k
        · rw [if_pos ⟨rfl, e2⟩, if_pos (show k ≤ j by omega)]
        · rw [if_neg (fun q => e2 q.2), if_neg (show ¬ k ≤ j by omega)]))
    exact ⟨X', z1, fr.trans z2, z3⟩
/-- the run of the class, its drawing g 5 empty at the start, comes to what the machine comes to within the bound -/
theorem c_perform {fu : Nat} {X : Mem} (hP : VP K T V N n) (hcl : ClOK K n cl) (hms : ms ≤ 600) (hfu : 200000 ≤ fu) (hG : RG g K T V N n cl (wsF K T n) (wR X 704 (g 0) (some (g 5)))) (h202 : mI X 202 (g 5) = 0) (hr : ∀ j, j < 16 → aI X (g 6) j = 0) (hu : ∀ j, j < 16 → aI X (g 7) j = 0) (hgg : g 0 ≠ g 5) :
    ∃ X', fX7_perform fu X (g 0) (some (g 8)) (some (g 5)) (nI ms) = some X' ∧ FR g (wR X 704 (g 0) (some (g 5))) X' ∧ OutR g ms X' (rnB K T V N n cl (wsF K T n) 81737 (0, [], c0B)).2.2 := by
  unfold fX7_perform
  have hk0 : mK X (g 0) = some (7, 0) := hG.k0
  rw [if_pos hk0]
  have fr : FR g (wR X 704 (g 0) (some (g 5))) (wI (wI (wI (wI (wR X 704 (g 0) (some (g 5))) 706 (g 0) (nI ms)) 707 (g 0) 0) 705 (g 0) 0) 708 (g 0) 0) := (((FR.wI (by omega)).trans (FR.wI (by omega))).trans (FR.wI (by omega))).trans (FR.wI (by omega))
  have hG1 := hG.fr fr
  have m9 : ∀ k a, k ≠ 705 → k ≠ 706 → k ≠ 707 → k ≠ 708 → mI (wI (wI (wI (wI (wR X 704 (g 0) (some (g 5))) 706 (g 0) (nI ms)) 707 (g 0) 0) 705 (g 0) 0) 708 (g 0) 0) k a = mI X k a := by
    intro k a h1 h2 h3 h4
    rw [mI_wI, if_neg (fun q => h4 q.1), mI_wI, if_neg (fun q => h1 q.1), mI_wI, if_neg (fun q => h3 q.1), mI_wI, if_neg (fun q => h2 q.1)]
    rfl
  have m5 : mI (wI (wI (wI (wI (wR X 704 (g 0) (some (g 5))) 706 (g 0) (nI ms)) 707 (g 0) 0) 705 (g 0) 0) 708 (g 0) 0) 705 (g 0) = 0 := by
    rw [mI_wI, if_neg (by omega), mI_wI, if_pos ⟨rfl, rfl⟩]
  have m6 : mI (wI (wI (wI (wI (wR X 704 (g 0) (some (g 5))) 706 (g 0) (nI ms)) 707 (g 0) 0) 705 (g 0) 0) 708 (g 0) 0) 706 (g 0) = nI ms := by
    rw [mI_wI, if_neg (by omega), mI_wI, if_neg (by omega), mI_wI, if_neg (by omega), mI_wI, if_pos ⟨rfl, rfl⟩]
  have m7 : mI (wI (wI (wI (wI (wR X 704 (g 0) (some (g 5))) 706 (g 0) (nI ms)) 707 (g 0) 0) 705 (g 0) 0) 708 (g 0) 0) 707 (g 0) = 0 := by
    rw [mI_wI, if_neg (by omega), mI_wI, if_neg (by omega), mI_wI, if_pos ⟨rfl, rfl⟩]
  have m8 : mI (wI (wI (wI (wI (wR X 704 (g 0) (some (g 5))) 706 (g 0) (nI ms)) 707 (g 0) 0) 705 (g 0) 0) 708 (g 0) 0) 708 (g 0) = 0 := by
    rw [mI_wI, if_pos ⟨rfl, rfl⟩]
  have a9 : ∀ a i, aI (wI (wI (wI (wI (wR X 704 (g 0) (some (g 5))) 706 (g 0) (nI ms)) 707 (g 0) 0) 705 (g 0) 0) 708 (g 0) 0) a i = aI X a i := by
    intro a i
    rw [aI_wI, aI_wI, aI_wI, aI_wI]
    rfl
  generalize (wI (wI (wI (wI (wR X 704 (g 0) (some (g 5))) 706 (g 0) (nI ms)) 707 (g 0) 0) 705 (g 0) 0) 708 (g 0) 0) = X1 at fr hG1 m9 m5 m6 m7 m8 a9 ⊢
  rw [hG1.r700, bi_some, if_pos hG1.k1]
  unfold fX8_begin
  rw [if_pos hG1.k1, bi_some]
  have fr2 : FR g X1 (wI (wI (wI (wI X1 800 (g 1) 8) 801 (g 1) 8) 802 (g 1) 0) 803 (g 1) 1) := (((FR.wI (by omega)).trans (FR.wI (by omega))).trans (FR.wI (by omega))).trans (FR.wI (by omega))
  have hG2 := hG1.fr fr2
  obtain ⟨X', z1, z2, z3⟩ := c_names (ms := ms) (fu := fu) hP hcl hms hfu 4 0 (fu - 5) _ rfl hG2 (fun X2 f1 f2 f3 f4 f6 f7 f8 => by
    have e9 : ∀ k a, k < 800 → mI X2 k a = mI X1 k a := by
      intro k a hk
      rw [f2, mI_wI, if_neg (by omega), mI_wI, if_neg (by omega), mI_wI, if_neg (by omega), mI_wI, if_neg (by omega)]
    refine ⟨⟨?_, ?_, ?_, ?_, ?_, ?_, ?_, fun j hj => ?_, fun j hj => ?_, fun j hj => ?_, ?_, ?_⟩, ?_, trivial⟩
    · rw [f2, mI_wI, if_neg (by omega), mI_wI, if_neg (by omega), mI_wI, if_neg (by omega), mI_wI, if_pos ⟨rfl, rfl⟩]
    · rw [f2, mI_wI, if_neg (by omega), mI_wI, if_neg (by omega), mI_wI, if_pos ⟨rfl, rfl⟩]
    · rw [f2, mI_wI, if_neg (by omega), mI_wI, if_pos ⟨rfl, rfl⟩]
    · rw [f2, mI_wI, if_pos ⟨rfl, rfl⟩]
    · rw [e9 708 _ (by omega)]; exact m8
    · rw [e9 707 _ (by omega)]; exact m7
    · rw [e9 706 _ (by omega)]; exact m6
    · rw [f8 j hj, if_pos (Nat.zero_le _)]
    · rw [f6, aI_wI, aI_wI, aI_wI, aI_wI, a9]; exact hr j hj
    · rw [f7, aI_wI, aI_wI, aI_wI, aI_wI, a9]; exact hu j hj
    · rw [e9 202 _ (by omega), m9 202 _ (by omega) (by omega) (by omega) (by omega)]; exact h202
    · refine ⟨0, Nat.le_refl _, rfl, fun _ e x y hs => ?_, fun q => absurd q (Nat.lt_irrefl 0)⟩
      obtain ⟨s1, s2, s3⟩ := hs
      have z : bit1 0 (nI x) = 0 := by
        rw [bit1_if (by omega)]
        simp
      rcases s3 with ⟨-, s3⟩ | ⟨-, s3⟩
      · have s3 : bit1 0 (nI x) = 1 := s3
        rw [z] at s3
        exact absurd s3 (by decide)
      · have s3 : bit1 0 (nI x) = 1 := s3
        rw [z] at s3
        exact absurd s3 (by decide)
    · rw [e9 705 _ (by omega)]; exact m5)
  rw [show fu - 5 + 4 + 1 = fu by omega] at z1
  exact ⟨X', z1, (fr.trans fr2).trans z2, z3⟩
end CLP
