theorem q_i30b {x j : Nat} : (30 : Int32) * nI x + nI j = nI (30 * x + j) := q_i30
/-- one order's code is laid -/
theorem q_lay1 {p n fu pl k : Nat} {K T V N : Nat → Int32} {S : SM} (hp : p < 30) (hpl : pl < 2) (hP : VP K T V N n) (hD : PD p n K T V N S) (hfu : 10 ≤ fu) (hk : k < n) (h : NR S (fmS K T V N k)) (rec29 : SM → Int32 → Int32 → Int32 → Option SM) :
    ∃ S', fX12_lays_L29b fu rec29 S (nI p) (nI pl) (nI k) = rec29 (ua S' 19 (30 * pl + k) (cdR K T V N k)) (nI p) (nI pl) (nI (k + 1)) ∧ NR S' (fmS K T V N (k + 1)) ∧ LF S S' ∧ ar S' 19 = ar S 19 := by
  have hn := hP.1
  obtain ⟨i6, i7, i8, i9⟩ := q_ix (K := K) (T := T) (V := V) (N := N) (S := S) (r := 0) hp hn hk
  have hc900 : (nI (30 * p + k)).toNatClampNeg = 30 * p + k := cl_900 hp (by omega)
  obtain ⟨tj, htj, et⟩ := t_lt4 (hP.2.2.2.2.1 k hk).1 (hP.2.2.2.2.1 k hk).2
  have i19 : inS 0 19 (nI (30 * pl + k)) = true := inS_ok (by decide) rfl (by show 30 * pl + k < 60; omega) (by decide)
  obtain ⟨a0, b0⟩ := fmS_ok hP k (Nat.le_of_lt hk)
  -- from the target on
  have l117 : ∀ (S1 : SM) (s1 : Nbs) (tg : Int32), LF S S1 → ar S1 19 = ar S 19 → NR S1 s1 → (tg, s1) = fmT K T k (fmS K T V N k) → ∃ S', fX12_lays_L117 fu rec29 S1 (nI p) (nI pl) (nI k) (nI (30 * p + k)) (K k) tg = rec29 (ua S' 19 (30 * pl + k) (cdR K T V N k)) (nI p) (nI pl) (nI (k + 1)) ∧ NR S' (fmS K T V N (k + 1)) ∧ LF S S' ∧ ar S' 19 = ar S 19 := by
    intro S1 s1 tg hl h19 hN hs
    have hD1 := hD.lf hl
    obtain ⟨d6, d7, d8, d9⟩ := hD1.2 k hk
    have e1 : fTg K T V N k = tg := (congrArg Prod.fst hs).symm
    have e2 : (fmT K T k (fmS K T V N k)).2 = s1 := (congrArg Prod.snd hs).symm
    unfold fX12_lays_L117 fX12_lays_L160
    rw [if_pos i9, hc900, d9, if_pos i8, d8]
    have es : fmS K T V N (k + 1) = (fmV V N k s1).2 := by rw [← e2]; rfl
    have ev : fVa K T V N k = (fmV V N k s1).1 := by rw [← e2]; rfl
    rcases hP.2.2.2.2.2.1 k hk with ⟨e, a, b⟩ | ⟨e, a, b⟩
    · rw [if_pos e, q_i30b, if_pos i19, nI_clamp (show 30 * pl + k < 2 ^ 31 by omega), nI_1]
      refine ⟨S1, ?_, ?_, hl, h19⟩
      · unfold cdR
        rw [if_pos e, e1]
      · rw [es]
        unfold fmV
        rw [if_pos e]
        exact hN
    · have en : ¬ N k = 0 := by rw [e]; decide
      obtain ⟨vj, hvj, evj⟩ := t_lt4 a b
      obtain ⟨S2, w1, w2, w3, w4⟩ := q_anew1 (fu := fu) hvj hfu hN
      rw [if_neg en, if_pos i8, evj, w1, bW_some, q_i30b, if_pos i19, nI_clamp (show 30 * pl + k < 2 ^ 31 by omega), nI_1]
      have eV : fmV V N k s1 = ((anw s1.1 vj).1, (anw s1.1 vj).2, s1.2) := by
        unfold fmV
        rw [if_neg en, evj, nI_clamp (by omega)]
      refine ⟨S2, ?_, ?_, hl.trans w3, w4.trans h19⟩
      · unfold cdR
        rw [if_neg en, e1, ev, eV]
      · rw [es, eV]
        exact w2
  obtain ⟨d6, d7, d8, d9⟩ := hD.2 k hk
  unfold fX12_lays_L29b
  rw [if_pos (q_i5 hp), nI_clamp (show p < 2 ^ 31 by omega), hD.1, if_neg (fun q => by have := (nI_leI (by omega) (by omega)).mp q; omega), q_i30, if_pos i6, hc900, d6]
  have nm : (K k = 3 ∨ K k = 4) → ∃ S', fX12_lays_L68 fu rec29 S (nI p) (nI pl) (nI k) (nI (30 * p + k)) (K k) = rec29 (ua S' 19 (30 * pl + k) (cdR K T V N k)) (nI p) (nI pl) (nI (k + 1)) ∧ NR S' (fmS K T V N (k + 1)) ∧ LF S S' ∧ ar S' 19 = ar S 19 := by
    intro hk34
    unfold fX12_lays_L68
    obtain ⟨S2, w1, w2, w3, w4⟩ := q_anew1 (fu := fu) htj hfu h
    rw [if_pos i7, hc900, d7, et, w1, bW_some]
    refine l117 S2 _ _ w3 w4 w2 ?_
    unfold fmT
    rw [if_pos hk34, et, nI_clamp (by omega)]
  have wd : ¬ (K k = 3 ∨ K k = 4) → (K k = 6 ∨ K k = 7) → ∃ S', fX12_lays_L99 fu rec29 S (nI p) (nI pl) (nI k) (nI (30 * p + k)) (K k) = rec29 (ua S' 19 (30 * pl + k) (cdR K T V N k)) (nI p) (nI pl) (nI (k + 1)) ∧ NR S' (fmS K T V N (k + 1)) ∧ LF S S' ∧ ar S' 19 = ar S 19 := by
    intro hn34 hk67
    unfold fX12_lays_L99
    obtain ⟨S2, w1, w2, w3, w4⟩ := q_anew2 (fu := fu) htj hfu h
    rw [if_pos i7, hc900, d7, et, w1, bW_some]
    refine l117 S2 _ _ w3 w4 w2 ?_
    unfold fmT
    rw [if_neg hn34, if_pos hk67, et, nI_clamp (by omega)]
  by_cases e3 : K k = 3
  · rw [if_pos e3]
    rw [e3] at nm ⊢
    exact nm (Or.inl rfl)
  · rw [if_neg e3]
    by_cases e4 : K k = 4
    · rw [if_pos e4]
      exact nm (Or.inr e4)
    · rw [if_neg e4]
      have hn34 : ¬ (K k = 3 ∨ K k = 4) := fun q => q.elim e3 e4
      by_cases e6 : K k = 6
      · rw [if_pos e6]
        exact wd hn34 (Or.inl e6)
      · rw [if_neg e6]
        by_cases e7 : K k = 7
        · rw [if_pos e7]
          exact wd hn34 (Or.inr e7)
        · rw [if_neg e7]
          refine l117 S _ _ LF.rfl9 rfl h ?_
          unfold fmT
          rw [if_neg hn34, if_neg (fun q => q.elim e6 e7)]
