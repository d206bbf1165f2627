/-! the partners are laid -/
theorem clG_le {K : Nat → Int32} : ∀ (m o : Nat), clG K m o ≤ m := by
  intro m
  induction m with
  | zero => intro o; exact Nat.le_refl 0
  | succ m ih =>
    intro o
    show (if K m = 8 ∧ br K m = o :: br K o then m else clG K m o) ≤ m + 1
    split
    · exact Nat.le_succ m
    · exact Nat.le_succ_of_le (ih o)
section PRB
variable {pr os pa n : Nat} {oa : Nat → Nat} {K T V N : Nat → Int32}
theorem d_pair {fu : Nat} (hP : VP K T V N n) (hfu : 100 ≤ fu) : ∀ (t i m : Nat) (X : Mem), i + t = n → PG pr os pa oa K T V N n X → PB pa K (clG K n) i X → ∃ X', fX5_pairBlocks_L2 fu (m + t + 1) X pr (nI i) = some X' ∧ AFr pa X X' ∧ PB pa K (clG K n) n X' := by
  have hn := hP.1
  have hcl := clG_ok hP
  intro t
  induction t with
  | zero =>
    intro i m X hi h hB
    have hi : i = n := hi
    subst hi
    refine ⟨X, ?_, AFr.rfl9, hB⟩
    show fX5_pairBlocks_L2b fu (fX5_pairBlocks_L2 fu m) X pr (nI i) = _
    unfold fX5_pairBlocks_L2b
    rw [if_pos h.1, h.2.1, bi_some, alen_of h.2.2.2.1 (by decide), bi_some, if_pos (Int32.le_refl _)]
  | succ t ih =>
    intro i m X hi h hB
    have hin : i < n := by omega
    have fr1 : AFr pa X (sI X pa i (-1)) := AFr.sI
    have h1 := h.fr fr1
    obtain ⟨o1, o2, o3, o4, o5, o6⟩ := h1.2.2.2.2.2 i hin
    have hB1 : PB pa K (clG K n) i (sI X pa i (-1)) := by
      intro o ho hk
      obtain ⟨b1, b2⟩ := hB o ho hk
      refine ⟨fun q => ?_, fun q => ?_⟩
      · rw [aI_sI, if_neg (fun z => by omega)]; exact b1 q
      · obtain ⟨b3, b4, b5⟩ := b2 q
        exact ⟨by rw [aI_sI, if_neg (fun z => by omega)]; exact b3, by rw [aI_sI, if_neg (fun z => by omega)]; exact b4, b5⟩
    show ∃ X', fX5_pairBlocks_L2b fu (fX5_pairBlocks_L2 fu (m + t + 1)) X pr (nI i) = some X' ∧ _
    unfold fX5_pairBlocks_L2b fX5_pairBlocks_L80
    rw [if_pos h.1, h.2.1, bi_some, alen_of h.2.2.2.1 (by decide), bi_some, if_neg (fun q => by have := (nI_leI (by omega) (by omega)).mp q; omega), h.2.2.1, bi_some, alen_of h.2.2.2.2.1 (by decide), bi_some, if_neg (fun q => by have := (nI_leI (by omega) (by omega)).mp q; omega), bi_some, if_pos (inb_of (t := 0) h.2.2.2.2.1 hin (by omega)), nI_clamp (by omega), h1.2.1, bi_some, if_pos (inb_of (t := 3) h1.2.2.2.1 hin (by omega)), o1, if_neg (by exact fun q => nomatch q), bi_some, if_pos o2, o3, nI_1]
    by_cases e8 : K i = 8
    · rw [if_pos e8]
      have hb0 := (hP.2.1 i hin).1 e8
      cases hb : br K i with
      | nil => exact absurd hb hb0
      | cons o M =>
        have ho := br_lt i o (by rw [hb]; exact List.mem_cons_self)
        have hon : o < n := Nat.lt_trans ho.1 hin
        have eci : clG K n o = i := cl_un (hcl o hon ho.2) (cl_of hP.2.2.1 hin e8 hb)
        have hM : M = br K o := br_suf i [] o M hb
        have fr2 : AFr pa (sI X pa i (-1)) (sI (sI X pa i (-1)) pa o (nI i)) := AFr.sI
        have h2 := h1.fr fr2
        rw [d_last h1 hn (Nat.le_of_lt hin) hB1 (fun z => by have := clG_le (K := K) n z; omega) hb (by omega), bi_some, if_neg (nI_pos (by omega)), h1.2.2.1, bi_some, alen_of h1.2.2.2.2.1 (by decide), bi_some, if_neg (fun q => by have := (nI_leI (by omega) (by omega)).mp q; omega), bi_some, if_pos (inb_of (t := 0) h1.2.2.2.2.1 hon (by omega)), nI_clamp (show o < 2 ^ 31 by omega), h2.2.2.1, bi_some, if_pos (inb_of (t := 0) h2.2.2.2.2.1 hin (by omega))]
        have fr3 : AFr pa (sI (sI X pa i (-1)) pa o (nI i)) (sI (sI (sI X pa i (-1)) pa o (nI i)) pa i (nI o)) := AFr.sI
        have hio := ho.1
        obtain ⟨X', z1, z2, z3⟩ := ih (i + 1) m _ (by omega) (h2.fr fr3) (by
          intro o' ho' hk
          have hne : o' ≠ i := fun q => by rw [q, e8] at hk; exact absurd hk (by decide)
          have ho'i : o' < i := by omega
          obtain ⟨b1, b2⟩ := hB o' ho'i hk
          rw [br_end e8, hb, List.tail_cons]
          rw [hb] at b1 b2
          have v3 : ∀ z, z ≠ i → z ≠ o → aI (sI (sI (sI X pa i (-1)) pa o (nI i)) pa i (nI o)) pa z = aI X pa z := by
            intro z q1 q2
            rw [aI_sI, if_neg (fun w => q1 w.2), aI_sI, if_neg (fun w => q2 w.2), aI_sI, if_neg (fun w => q1 w.2)]
          by_cases eo : o' = o
          · refine ⟨fun q => ?_, fun _ => ⟨?_, ?_, ?_⟩⟩
            · rw [eo, hM] at q
              exact absurd (br_lt o o q).1 (Nat.lt_irrefl _)
            · rw [eo, eci, aI_sI, if_neg (fun w => by omega), aI_sI, if_pos ⟨rfl, rfl⟩]
            · rw [eo, eci, aI_sI, if_pos ⟨rfl, rfl⟩]
            · rw [eo, eci]; exact Nat.lt_succ_self i
          · refine ⟨fun q => ?_, fun q => ?_⟩
            · rw [v3 o' hne eo]
              exact b1 (List.mem_cons_of_mem _ q)
            · obtain ⟨b3, b4, b5⟩ := b2 (fun w => (List.mem_cons.mp w).elim eo q)
              have hc := hcl o' (by omega) hk
              have hco : clG K n o' ≠ o := fun w => by
                have h8 := hc.2.2.1
                rw [w] at h8
                rw [h8] at ho
                exact absurd ho.2 (by decide)
              exact ⟨by rw [v3 o' hne eo]; exact b3, by rw [v3 _ (by omega) hco]; exact b4, by omega⟩)
        exact ⟨X', z1, ((fr1.trans fr2).trans fr3).trans z2, z3⟩
    · rw [if_neg e8]
      obtain ⟨X', z1, z2, z3⟩ := ih (i + 1) m _ (by omega) h1 (by
        intro o' ho' hk
        by_cases ei : o' = i
        · subst ei
          refine ⟨fun _ => by rw [aI_sI, if_pos ⟨rfl, rfl⟩], fun q => ?_⟩
          rw [br_op hk] at q
          exact absurd List.mem_cons_self q
        · obtain ⟨b1, b2⟩ := hB o' (by omega) hk
          have hmem : o' ∈ br K (i + 1) ↔ o' ∈ br K i := by
            by_cases hop : K i = 5 ∨ K i = 6
            · rw [br_op hop]
              exact ⟨fun q => (List.mem_cons.mp q).resolve_left ei, fun q => List.mem_cons_of_mem _ q⟩
            · rw [br_no (fun q => hop (Or.inl q)) (fun q => hop (Or.inr q)) e8]
          refine ⟨fun q => ?_, fun q => ?_⟩
          · rw [aI_sI, if_neg (fun z => by omega)]
            exact b1 (hmem.mp q)
          · obtain ⟨b3, b4, b5⟩ := b2 (fun w => q (hmem.mpr w))
            exact ⟨by rw [aI_sI, if_neg (fun z => by omega)]; exact b3, by rw [aI_sI, if_neg (fun z => by omega)]; exact b4, by omega⟩)
      exact ⟨X', z1, fr1.trans z2, z3⟩
/-- the words' starts -/
theorem d_words {fu wa : Nat} (hP : VP K T V N n) (hne : wa ≠ pa) : ∀ (t i m : Nat) (X : Mem), i + t = n → PG pr os pa oa K T V N n X → mR X 503 pr = some wa → mK X wa = some (20, 4) → (∀ j, j < 4 → aI X wa j = oW (wsF K T i (nI j))) → ∃ X', fX5_findWords_L2 fu (m + t + 1) X pr (nI i) = some X' ∧ AFr wa X X' ∧ ∀ j, j < 4 → aI X' wa j = oW (wsF K T n (nI j)) := by
  have hn := hP.1
  intro t
  induction t with
  | zero =>
    intro i m X hi h hw hk hB
    have hi : i = n := hi
    subst hi
    refine ⟨X, ?_, AFr.rfl9, hB⟩
    show fX5_findWords_L2b fu (fX5_findWords_L2 fu m) X pr (nI i) = _
    unfold fX5_findWords_L2b
    rw [if_pos h.1, h.2.1, bi_some, alen_of h.2.2.2.1 (by decide), bi_some, if_pos (Int32.le_refl _)]
  | succ t ih =>
    intro i m X hi h hw hk hB
    have hin : i < n := by omega
    obtain ⟨o1, o2, o3, o4, o5, o6⟩ := h.2.2.2.2.2 i hin
    obtain ⟨tj, htj, et⟩ := t_lt4 (hP.2.2.2.2.1 i hin).1 (hP.2.2.2.2.1 i hin).2
    show ∃ X', fX5_findWords_L2b fu (fX5_findWords_L2 fu (m + t + 1)) X pr (nI i) = some X' ∧ _
    unfold fX5_findWords_L2b fX5_findWords_L60
    have ew : ∀ w, wsF K T (i + 1) w = if K i = 6 ∧ T i = w then some i else wsF K T i w := fun _ => rfl
    rw [if_pos h.1, h.2.1, bi_some, alen_of h.2.2.2.1 (by decide), bi_some, if_neg (fun q => by have := (nI_leI (by omega) (by omega)).mp q; omega), bi_some, if_pos (inb_of (t := 3) h.2.2.2.1 hin (by omega)), nI_clamp (by omega), o1, if_neg (by exact fun q => nomatch q), bi_some, if_pos o2, o3, o4, nI_1]
    by_cases e6 : K i = 6
    · rw [if_pos e6, et, if_neg (nI_pos (by omega)), hw, bi_some, alen_of hk (by decide), bi_some, if_neg (fun q => by have := (nI_leI (by omega) (by omega)).mp q; omega), bi_some, if_pos (inb_of (t := 0) hk htj (by omega)), nI_clamp (by omega)]
      have fr : AFr wa X (sI X wa tj (nI i)) := AFr.sI
      obtain ⟨X', z1, z2, z3⟩ := ih (i + 1) m _ (by omega) (h.fr fr) hw hk (fun j hj => by
        rw [aI_sI, ew]
        by_cases e : j = tj
        · rw [if_pos ⟨rfl, e⟩, if_pos ⟨e6, by rw [et, e]⟩]
          rfl
        · rw [if_neg (fun q => e q.2), if_neg (fun q => e ((nI_eq (by omega) (by omega)).mp (q.2.symm.trans et)))]
          exact hB j hj)
      exact ⟨X', z1, fr.trans z2, z3⟩
    · rw [if_neg e6]
      exact ih (i + 1) m X (by omega) h hw hk (fun j hj => by rw [ew, if_neg (fun q => e6 q.1)]; exact hB j hj)
end PRB
