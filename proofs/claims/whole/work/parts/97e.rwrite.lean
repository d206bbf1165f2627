/-! THE REFERENCE writes a program -/
theorem ar_ua_o {S : SM} {r i r' j : Nat} {v : Int32} (h : r' ≠ r) : ar (ua S r i v) r' j = ar S r' j := if_neg (fun z => h z.1)
theorem ar_ua_r {S : SM} {r i r' : Nat} {v : Int32} (h : r' ≠ r) : ar (ua S r i v) r' = ar S r' := funext fun _ => ar_ua_o h
/-- k orders are copied -/
def CpF (np k : Nat) (S0 S : SM) : Prop := sc S = sc S0 ∧ (∀ r, r ≠ 6 → r ≠ 7 → r ≠ 8 → r ≠ 9 → ar S r = ar S0 r) ∧ ∀ q, q < 4 → ∀ a, ar S (6 + q) a = if 30 * np ≤ a ∧ a < 30 * np + k then ar S0 q (a - 30 * np) else ar S0 (6 + q) a
theorem s_copy {fu n np : Nat} {q : Int32} {S0 : SM} (hn : n ≤ 30) (hnp : np < 30) (h1 : sc S0 1 = nI n) (h8 : sc S0 8 = nI np) (hN : ∀ i, i < n → ar S0 3 i = 0 ∨ ar S0 3 i = 1) : ∀ (t k m : Nat) (S : SM), k + t = n → CpF np k S0 S → ∃ S' rec54, CpF np n S0 S' ∧ fX12_write_L54 fu (m + t + 1) S q (nI k) = fX12_write_L54b fu rec54 S' q (nI n) := by
  intro t
  induction t with
  | zero =>
    intro k m S hk hC
    have hk : k = n := hk
    subst hk
    exact ⟨S, fX12_write_L54 fu m, hC, rfl⟩
  | succ t ih =>
    intro k m S hk hC
    have hkn : k < n := by omega
    obtain ⟨c1, c2, c3⟩ := hC
    have i03 : ∀ r9, (r9 = 0 ∨ r9 = 1 ∨ r9 = 2) → inS 0 r9 (nI k) = true := by
      rintro r9 (z | z | z) <;> subst z <;> exact inS_ok (by decide) rfl (by show k < 30; omega) (by decide)
    have i33 : inS 1 3 (nI k) = true := inS_ok (by decide) rfl (by show k < 30; omega) (by decide)
    have i6 : ∀ r9, (r9 = 6 ∨ r9 = 7 ∨ r9 = 8) → inS 0 r9 (nI (30 * np + k)) = true := by
      rintro r9 (z | z | z) <;> subst z <;> exact inS_ok (by decide) rfl (by show 30 * np + k < 900; omega) (by decide)
    have i9 : inS 1 9 (nI (30 * np + k)) = true := inS_ok (by decide) rfl (by show 30 * np + k < 900; omega) (by decide)
    have k1 : (nI k).toNatClampNeg = k := nI_clamp (by omega)
    have k2 : (nI (30 * np + k)).toNatClampNeg = 30 * np + k := nI_clamp (by omega)
    have s0 : ∀ j, ar S 0 j = ar S0 0 j := fun j => by rw [c2 0 (by omega) (by omega) (by omega) (by omega)]
    have s1 : ∀ j, ar S 1 j = ar S0 1 j := fun j => by rw [c2 1 (by omega) (by omega) (by omega) (by omega)]
    have s2 : ∀ j, ar S 2 j = ar S0 2 j := fun j => by rw [c2 2 (by omega) (by omega) (by omega) (by omega)]
    have s3 : ∀ j, ar S 3 j = ar S0 3 j := fun j => by rw [c2 3 (by omega) (by omega) (by omega) (by omega)]
    have step : fX12_write_L54 fu (m + (t + 1) + 1) S q (nI k) = fX12_write_L54 fu (m + t + 1) (ua (ua (ua (ua S 6 (30 * np + k) (ar S0 0 k)) 7 (30 * np + k) (ar S0 1 k)) 8 (30 * np + k) (ar S0 2 k)) 9 (30 * np + k) (ar S0 3 k)) q (nI (k + 1)) := by
      show fX12_write_L54b fu (fX12_write_L54 fu (m + t + 1)) S q (nI k) = _
      unfold fX12_write_L54b
      have n16 : ∀ v, ar (ua S 6 (30 * np + k) v) 1 k = ar S0 1 k := fun v => by rw [ar_ua_o (by decide), s1]
      have n27 : ∀ v w, ar (ua (ua S 6 (30 * np + k) v) 7 (30 * np + k) w) 2 k = ar S0 2 k := fun v w => by rw [ar_ua_o (by decide), ar_ua_o (by decide), s2]
      have n38 : ∀ v w y, ar (ua (ua (ua S 6 (30 * np + k) v) 7 (30 * np + k) w) 8 (30 * np + k) y) 3 k = ar S0 3 k := fun v w y => by rw [ar_ua_o (by decide), ar_ua_o (by decide), ar_ua_o (by decide), s3]
      rw [c1, h1, if_neg (fun z => by have := (nI_leI (by omega) (by omega)).mp z; omega), h8, q_i30, if_pos (i03 0 (Or.inl rfl)), if_pos (i6 6 (Or.inl rfl)), if_pos (i03 1 (Or.inr (Or.inl rfl))), if_pos (i6 7 (Or.inr (Or.inl rfl))), if_pos (i03 2 (Or.inr (Or.inr rfl))), if_pos (i6 8 (Or.inr (Or.inr rfl))), if_pos i33, if_pos i9, k1, k2, s0, n16, n27, n38, if_pos (hN k hkn), nI_1]
    obtain ⟨S', rec54, z1, z2⟩ := ih (k + 1) m (ua (ua (ua (ua S 6 (30 * np + k) (ar S0 0 k)) 7 (30 * np + k) (ar S0 1 k)) 8 (30 * np + k) (ar S0 2 k)) 9 (30 * np + k) (ar S0 3 k)) (by omega) (by
      refine ⟨c1, fun r a b c d => by rw [ar_ua_r d, ar_ua_r c, ar_ua_r b, ar_ua_r a]; exact c2 r a b c d, fun q9 hq a => ?_⟩
      have old := c3 q9 hq a
      have fin : ∀ w : Int32, w = (if a = 30 * np + k then ar S0 q9 k else ar S (6 + q9) a) → w = if 30 * np ≤ a ∧ a < 30 * np + (k + 1) then ar S0 q9 (a - 30 * np) else ar S0 (6 + q9) a := by
        intro w hw
        rw [hw]
        by_cases e : a = 30 * np + k
        · rw [if_pos e, if_pos (by omega), show a - 30 * np = k by omega]
        · rw [if_neg e, old]
          by_cases e2 : 30 * np ≤ a ∧ a < 30 * np + k
          · rw [if_pos e2, if_pos (by omega)]
          · rw [if_neg e2, if_neg (by omega)]
      rcases (show q9 = 0 ∨ q9 = 1 ∨ q9 = 2 ∨ q9 = 3 by omega) with rfl | rfl | rfl | rfl
      · refine fin _ ?_
        rw [ar_ua_o (by decide), ar_ua_o (by decide), ar_ua_o (by decide), ar_ua]
        by_cases e : a = 30 * np + k
        · rw [if_pos ⟨rfl, e⟩, if_pos e]
        · rw [if_neg (fun z => e z.2), if_neg e]
      · refine fin _ ?_
        rw [ar_ua_o (by decide), ar_ua_o (by decide), ar_ua]
        by_cases e : a = 30 * np + k
        · rw [if_pos ⟨rfl, e⟩, if_pos e]
        · rw [if_neg (fun z => e z.2), if_neg e, ar_ua_o (by decide)]
      · refine fin _ ?_
        rw [ar_ua_o (by decide), ar_ua]
        by_cases e : a = 30 * np + k
        · rw [if_pos ⟨rfl, e⟩, if_pos e]
        · rw [if_neg (fun z => e z.2), if_neg e, ar_ua_o (by decide), ar_ua_o (by decide)]
      · refine fin _ ?_
        rw [ar_ua]
        by_cases e : a = 30 * np + k
        · rw [if_pos ⟨rfl, e⟩, if_pos e]
        · rw [if_neg (fun z => e z.2), if_neg e, ar_ua_o (by decide), ar_ua_o (by decide), ar_ua_o (by decide)])
    exact ⟨S', rec54, z1, step.trans z2⟩
theorem s_written {fu n np : Nat} {q : Int32} {K T V N : Nat → Int32} {G : Nat → Pg} {ne : Nat} {ew : Nat → Nat} {eo es : Nat → Int32} {nw : Nat} {wp we : Nat → Nat} {wc : Nat → Int32} {W H k a b c d : Nat} {S0 : SM} (hfu : 100000000 ≤ fu) (hnp : np < 30) (hB : PgB K T V N n k a b c d) (pP : PrsP np G) (hS : RelS K T V N n np G ne ew eo es nw wp we wc W H S0) : ∃ S', fX12_write_L54 fu fu S0 q 0 = some (nI np, S') ∧ sc S' 0 = sc S0 0 ∧ RelS K T V N 0 (np + 1) (upN G np (K, T, V, N, n, q, k, a, b, c, d)) ne ew eo es nw wp we wc W H S' := by
  obtain ⟨sD, sP, sE, sW, sL, s18⟩ := hS
  have hVP := hB.1
  have hn := hVP.1
  have hN : ∀ i, i < n → ar S0 3 i = 0 ∨ ar S0 3 i = 1 := fun i hi => by
    rw [(sD.2.2.2 i hi).2.2.2]
    exact (hVP.2.2.2.2.2.1 i hi).elim (fun z => Or.inl z.1) (fun z => Or.inr z.1)
  obtain ⟨S1, rec54, ⟨c1, c2, c3⟩, z2⟩ := s_copy (fu := fu) (q := q) hn hnp sD.1 sP.1 hN n 0 (fu - n - 1) S0 (by omega) ⟨rfl, fun _ _ _ _ _ => rfl, fun q9 _ a => by rw [if_neg (by omega)]⟩
  rw [show fu - n - 1 + n + 1 = fu by omega] at z2
  have z2 : fX12_write_L54 fu fu S0 q 0 = fX12_write_L54b fu rec54 S1 q (nI n) := z2
  have i30 : ∀ r9, (r9 = 4 ∨ r9 = 5 ∨ r9 = 10 ∨ r9 = 11 ∨ r9 = 12) → inS 0 r9 (nI np) = true := by
    rintro r9 (z | z | z | z | z) <;> subst z <;> exact inS_ok (by decide) rfl (by show np < 30; omega) (by decide)
  have knp : (nI np).toNatClampNeg = np := nI_clamp (by omega)
  -- the state at the run's beginning
  have t8 : ∀ i, i ≠ 1 → i ≠ 2 → i ≠ 3 → i ≠ 8 → sc (uc (uc (uc (uc (ua (ua S1 4 np q) 5 np (nI n)) 1 0) 2 0) 3 0) 8 (nI (np + 1))) i = sc S0 i := fun i a1 a2 a3 a8 => by
    rw [sc_uc, if_neg a8, sc_uc, if_neg a3, sc_uc, if_neg a2, sc_uc, if_neg a1, sc_ua, sc_ua, c1]
  have t80 : sc (uc (uc (uc (uc (ua (ua S1 4 np q) 5 np (nI n)) 1 0) 2 0) 3 0) 8 (nI (np + 1))) 8 = nI (np + 1) := rfl
  have t81 : sc (uc (uc (uc (uc (ua (ua S1 4 np q) 5 np (nI n)) 1 0) 2 0) 3 0) 8 (nI (np + 1))) 1 = 0 ∧ sc (uc (uc (uc (uc (ua (ua S1 4 np q) 5 np (nI n)) 1 0) 2 0) 3 0) 8 (nI (np + 1))) 2 = 0 ∧ sc (uc (uc (uc (uc (ua (ua S1 4 np q) 5 np (nI n)) 1 0) 2 0) 3 0) 8 (nI (np + 1))) 3 = 0 := ⟨rfl, rfl, rfl⟩
  have ta : ∀ r, ar (uc (uc (uc (uc (ua (ua S1 4 np q) 5 np (nI n)) 1 0) 2 0) 3 0) 8 (nI (np + 1))) r = ar (ua (ua S1 4 np q) 5 np (nI n)) r := fun r => rfl
  have body : fX12_write_L54b fu rec54 S1 q (nI n) = Option.bind (fX12_runs fu (uc (uc (uc (uc (ua (ua S1 4 np q) 5 np (nI n)) 1 0) 2 0) 3 0) 8 (nI (np + 1))) (nI np)) fun X176 => (if inS 0 10 ((sc X176 8) - (1 : Int32)) = true then (if inS 0 11 ((sc (ua X176 10 ((sc X176 8) - (1 : Int32)).toNatClampNeg (sc X176 26)) 8) - (1 : Int32)) = true then (if inS 0 18 (sc (ua (ua X176 10 ((sc X176 8) - (1 : Int32)).toNatClampNeg (sc X176 26)) 11 ((sc (ua X176 10 ((sc X176 8) - (1 : Int32)).toNatClampNeg (sc X176 26)) 8) - (1 : Int32)).toNatClampNeg (sc (ua X176 10 ((sc X176 8) - (1 : Int32)).toNatClampNeg (sc X176 26)) 25)) 25) = true then (if inS 0 12 ((sc (ua (ua X176 10 ((sc X176 8) - (1 : Int32)).toNatClampNeg (sc X176 26)) 11 ((sc (ua X176 10 ((sc X176 8) - (1 : Int32)).toNatClampNeg (sc X176 26)) 8) - (1 : Int32)).toNatClampNeg (sc (ua X176 10 ((sc X176 8) - (1 : Int32)).toNatClampNeg (sc X176 26)) 25)) 8) - (1 : Int32)) = true then (some (((sc (ua (ua (ua X176 10 ((sc X176 8) - (1 : Int32)).toNatClampNeg (sc X176 26)) 11 ((sc (ua X176 10 ((sc X176 8) - (1 : Int32)).toNatClampNeg (sc X176 26)) 8) - (1 : Int32)).toNatClampNeg (sc (ua X176 10 ((sc X176 8) - (1 : Int32)).toNatClampNeg (sc X176 26)) 25)) 12 ((sc (ua (ua X176 10 ((sc X176 8) - (1 : Int32)).toNatClampNeg (sc X176 26)) 11 ((sc (ua X176 10 ((sc X176 8) - (1 : Int32)).toNatClampNeg (sc X176 26)) 8) - (1 : Int32)).toNatClampNeg (sc (ua X176 10 ((sc X176 8) - (1 : Int32)).toNatClampNeg (sc X176 26)) 25)) 8) - (1 : Int32)).toNatClampNeg (ar (ua (ua X176 10 ((sc X176 8) - (1 : Int32)).toNatClampNeg (sc X176 26)) 11 ((sc (ua X176 10 ((sc X176 8) - (1 : Int32)).toNatClampNeg (sc X176 26)) 8) - (1 : Int32)).toNatClampNeg (sc (ua X176 10 ((sc X176 8) - (1 : Int32)).toNatClampNeg (sc X176 26)) 25)) 18 (sc (ua (ua X176 10 ((sc X176 8) - (1 : Int32)).toNatClampNeg (sc X176 26)) 11 ((sc (ua X176 10 ((sc X176 8) - (1 : Int32)).toNatClampNeg (sc X176 26)) 8) - (1 : Int32)).toNatClampNeg (sc (ua X176 10 ((sc X176 8) - (1 : Int32)).toNatClampNeg (sc X176 26)) 25)) 25).toNatClampNeg)) 8) - (1 : Int32)), (ua (ua (ua X176 10 ((sc X176 8) - (1 : Int32)).toNatClampNeg (sc X176 26)) 11 ((sc (ua X176 10 ((sc X176 8) - (1 : Int32)).toNatClampNeg (sc X176 26)) 8) - (1 : Int32)).toNatClampNeg (sc (ua X176 10 ((sc X176 8) - (1 : Int32)).toNatClampNeg (sc X176 26)) 25)) 12 ((sc (ua (ua X176 10 ((sc X176 8) - (1 : Int32)).toNatClampNeg (sc X176 26)) 11 ((sc (ua X176 10 ((sc X176 8) - (1 : Int32)).toNatClampNeg (sc X176 26)) 8) - (1 : Int32)).toNatClampNeg (sc (ua X176 10 ((sc X176 8) - (1 : Int32)).toNatClampNeg (sc X176 26)) 25)) 8) - (1 : Int32)).toNatClampNeg (ar (ua (ua X176 10 ((sc X176 8) - (1 : Int32)).toNatClampNeg (sc X176 26)) 11 ((sc (ua X176 10 ((sc X176 8) - (1 : Int32)).toNatClampNeg (sc X176 26)) 8) - (1 : Int32)).toNatClampNeg (sc (ua X176 10 ((sc X176 8) - (1 : Int32)).toNatClampNeg (sc X176 26)) 25)) 18 (sc (ua (ua X176 10 ((sc X176 8) - (1 : Int32)).toNatClampNeg (sc X176 26)) 11 ((sc (ua X176 10 ((sc X176 8) - (1 : Int32)).toNatClampNeg (sc X176 26)) 8) - (1 : Int32)).toNatClampNeg (sc (ua X176 10 ((sc X176 8) - (1 : Int32)).toNatClampNeg (sc X176 26)) 25)) 25).toNatClampNeg)))) else none) else none) else none) else none) := by
    have sc8 : sc S1 8 = nI np := by rw [c1]; exact sP.1
    have sc1 : sc S1 1 = nI n := by rw [c1]; exact sD.1
    unfold fX12_write_L54b fX12_wipes
    have e8 : sc (uc (uc (uc (ua (ua S1 4 np q) 5 np (nI n)) 1 0) 2 0) 3 0) 8 = nI np := sc8
    have e81 : ∀ v, sc (uc (uc (uc (uc (ua (ua S1 4 np q) 5 np (nI n)) 1 0) 2 0) 3 0) 8 v) 8 = v := fun v => rfl
    have e4 : ∀ i v, sc (ua S1 4 i v) 8 = nI np := fun i v => sc8
    have e41 : ∀ i v, sc (ua S1 4 i v) 1 = nI n := fun i v => sc1
    rw [sc1, if_pos (Int32.le_refl _), sc8, if_pos (i30 4 (Or.inl rfl)), e4, if_pos (i30 5 (Or.inr (Or.inl rfl))), bW_some, knp, e41, e8, e81, nI_1, nI_pred]
  generalize uc (uc (uc (uc (ua (ua S1 4 np q) 5 np (nI n)) 1 0) 2 0) 3 0) 8 (nI (np + 1)) = S8 at t8 t80 t81 ta body
  have b67 : ∀ q9, q9 < 4 → ∀ a, ar S8 (6 + q9) a = if 30 * np ≤ a ∧ a < 30 * np + n then ar S0 q9 (a - 30 * np) else ar S0 (6 + q9) a := fun q9 hq a => by
    rw [ta, ar_ua_o (by omega), ar_ua_o (by omega)]
    exact c3 q9 hq a
  have brest : ∀ r, r ≠ 4 → r ≠ 5 → r ≠ 6 → r ≠ 7 → r ≠ 8 → r ≠ 9 → ar S8 r = ar S0 r := fun r h4 h5 h6 h7 h8 h9 => by
    rw [ta, ar_ua_r h5, ar_ua_r h4]
    exact c2 r h6 h7 h8 h9
  have b4 : ∀ p, ar S8 4 p = if p = np then q else ar S0 4 p := fun p => by
    rw [ta, ar_ua_o (by decide), ar_ua, c2 4 (by decide) (by decide) (by decide) (by decide)]
    by_cases e : p = np
    · rw [if_pos ⟨rfl, e⟩, if_pos e]
    · rw [if_neg (fun z => e z.2), if_neg e]
  have b5 : ∀ p, ar S8 5 p = if p = np then nI n else ar S0 5 p := fun p => by
    rw [ta, ar_ua]
    by_cases e : p = np
    · rw [if_pos ⟨rfl, e⟩, if_pos e]
    · rw [if_neg (fun z => e z.2), if_neg e, ar_ua_o (by decide), c2 5 (by decide) (by decide) (by decide) (by decide)]
  have in30 : ∀ (p j : Nat), p < np → j < 30 → ¬ (30 * np ≤ 30 * p + j ∧ 30 * p + j < 30 * np + n) := fun p j hp hj => by omega
  have PDnew : PD np n K T V N S8 := by
    refine ⟨by rw [b5, if_pos rfl], fun j hj => ?_⟩
    obtain ⟨d1, d2, d3, d4⟩ := sD.2.2.2 j hj
    have hin : 30 * np ≤ 30 * np + j ∧ 30 * np + j < 30 * np + n := by omega
    have hj9 : 30 * np + j - 30 * np = j := by omega
    refine ⟨?_, ?_, ?_, ?_⟩
    · have := b67 0 (by omega) (30 * np + j)
      rw [if_pos hin, hj9, d1] at this
      exact this
    · have := b67 1 (by omega) (30 * np + j)
      rw [if_pos hin, hj9, d2] at this
      exact this
    · have := b67 2 (by omega) (30 * np + j)
      rw [if_pos hin, hj9, d3] at this
      exact this
    · have := b67 3 (by omega) (30 * np + j)
      rw [if_pos hin, hj9, d4] at this
      exact this
  have s188 : ar S8 18 0 = 0 := by rw [brest 18 (by omega) (by omega) (by omega) (by omega) (by omega) (by omega)]; exact s18
  obtain ⟨S2, y1, y2, y3, y4⟩ := q_runs (fu := fu) (p := np) hnp hVP PDnew hfu s188
  obtain ⟨w1, w2, w3, w4, w5⟩ := y3.all
  have hcc := CI_c (finB_CI hVP)
  have u8 : sc S2 8 = nI (np + 1) := (y2.1 8 (by omega)).trans t80
  have a18 : ar S2 18 (cC (finB K T V N n)) = nI k := by rw [w5 _ (Nat.le_refl _)]; exact hB.2.2.1
  have i18 : inS 0 18 (nI (cC (finB K T V N n))) = true := inS_ok (by decide) rfl (by show cC (finB K T V N n) < 601; omega) (by decide)
  have k18 : (nI (cC (finB K T V N n))).toNatClampNeg = cC (finB K T V N n) := nI_clamp (by omega)
  refine ⟨ua (ua (ua S2 10 np (cF (finB K T V N n))) 11 np (nI (cC (finB K T V N n)))) 12 np (nI k), ?_, ?_, ?_⟩
  · rw [z2, body, y1, bi_some]
    have o18 : ∀ u v, ar (ua (ua S2 10 np u) 11 np v) 18 (cC (finB K T V N n)) = nI k := fun u v => by rw [ar_ua_o (by decide), ar_ua_o (by decide), a18]
    simp only [sc_ua, u8, nI_pred, knp, i30 10 (Or.inr (Or.inr (Or.inl rfl))), i30 11 (Or.inr (Or.inr (Or.inr (Or.inl rfl)))), i30 12 (Or.inr (Or.inr (Or.inr (Or.inr rfl)))), w1, w2, k18, i18, if_true, o18]
  · rw [sc_ua, sc_ua, sc_ua, y2.1 0 (by omega), t8 0 (by omega) (by omega) (by omega) (by omega)]
  · have f9 : ∀ r, r < 13 → r ≠ 10 → r ≠ 11 → r ≠ 12 → ar (ua (ua (ua S2 10 np (cF (finB K T V N n))) 11 np (nI (cC (finB K T V N n)))) 12 np (nI k)) r = ar S8 r := fun r h1 h2 h3 h4 => by
      rw [ar_ua_r h4, ar_ua_r h3, ar_ua_r h2]
      exact y2.2.1 r (by omega)
    have f20 : ∀ r, 18 < r → ar (ua (ua (ua S2 10 np (cF (finB K T V N n))) 11 np (nI (cC (finB K T V N n)))) 12 np (nI k)) r = ar S0 r := fun r h1 => by
      rw [ar_ua_r (by omega), ar_ua_r (by omega), ar_ua_r (by omega), y2.2.1 r (by omega)]
      exact brest r (by omega) (by omega) (by omega) (by omega) (by omega) (by omega)
    have fs : ∀ i, i < 21 ∨ 29 < i → sc (ua (ua (ua S2 10 np (cF (finB K T V N n))) 11 np (nI (cC (finB K T V N n)))) 12 np (nI k)) i = sc S8 i := fun i hi => by
      rw [sc_ua, sc_ua, sc_ua]
      exact y2.1 i hi
    refine ⟨DrfS_0 ((fs 1 (by omega)).trans t81.1) ((fs 2 (by omega)).trans t81.2.1) ((fs 3 (by omega)).trans t81.2.2), ⟨(fs 8 (by omega)).trans t80, fun p hp => ?_⟩, sE.cg ((fs 37 (by omega)).trans (t8 37 (by omega) (by omega) (by omega) (by omega))) (fun r h1 _ => f20 r (by omega)), sW.cg ((fs 41 (by omega)).trans (t8 41 (by omega) (by omega) (by omega) (by omega))) (fun r h1 _ => f20 r (by omega)), sL.cg ((fs 45 (by omega)).trans (t8 45 (by omega) (by omega) (by omega) (by omega))) ((fs 46 (by omega)).trans (t8 46 (by omega) (by omega) (by omega) (by omega))), by rw [ar_ua_o (by decide), ar_ua_o (by decide), ar_ua_o (by decide)]; exact y4⟩
    by_cases e : p = np
    · subst e
      rw [upN_s]
      refine ⟨⟨?_, fun j hj => ?_⟩, ?_, ?_, ?_, ?_, fun j hj => ?_, fun j hj => ?_⟩
      · rw [f9 5 (by omega) (by omega) (by omega) (by omega)]; exact PDnew.1
      · rw [f9 6 (by omega) (by omega) (by omega) (by omega), f9 7 (by omega) (by omega) (by omega) (by omega), f9 8 (by omega) (by omega) (by omega) (by omega), f9 9 (by omega) (by omega) (by omega) (by omega)]
        exact PDnew.2 j hj
      · rw [f9 4 (by omega) (by omega) (by omega) (by omega), b4, if_pos rfl]
        rfl
      · rw [ar_ua_o (by decide), ar_ua_o (by decide), ar_ua, if_pos ⟨rfl, rfl⟩]
        rfl
      · rw [ar_ua_o (by decide), ar_ua, if_pos ⟨rfl, rfl⟩]
        rfl
      · rw [ar_ua, if_pos ⟨rfl, rfl⟩]
        rfl
      · rw [ar_ua_o (by decide), ar_ua_o (by decide), ar_ua_o (by decide)]; exact w3 j hj
      · rw [ar_ua_o (by decide), ar_ua_o (by decide), ar_ua_o (by decide)]; exact w4 j hj
    · have hp' : p < np := by omega
      rw [upN_o e]
      obtain ⟨⟨p1, p2⟩, p3, p4, p5, p6, p7, p8⟩ := sP.2 p hp'
      have hpn : pgn (G p) ≤ 30 := (pP.2 p hp').1.1
      refine ⟨⟨?_, fun j hj => ?_⟩, ?_, ?_, ?_, ?_, fun j hj => ?_, fun j hj => ?_⟩
      · rw [f9 5 (by omega) (by omega) (by omega) (by omega), b5, if_neg e]; exact p1
      · have hno := in30 p j hp' (by omega)
        rw [f9 6 (by omega) (by omega) (by omega) (by omega), f9 7 (by omega) (by omega) (by omega) (by omega), f9 8 (by omega) (by omega) (by omega) (by omega), f9 9 (by omega) (by omega) (by omega) (by omega)]
        have q0 := b67 0 (by omega) (30 * p + j)
        have q1 := b67 1 (by omega) (30 * p + j)
        have q2 := b67 2 (by omega) (30 * p + j)
        have q3 := b67 3 (by omega) (30 * p + j)
        rw [if_neg hno] at q0 q1 q2 q3
        rw [q0, q1, q2, q3]
        exact p2 j hj
      · rw [f9 4 (by omega) (by omega) (by omega) (by omega), b4, if_neg e]; exact p3
      · rw [ar_ua_o (by decide), ar_ua_o (by decide), ar_ua, if_neg (fun z => e z.2), y2.2.1 10 (by omega), brest 10 (by omega) (by omega) (by omega) (by omega) (by omega) (by omega)]; exact p4
      · rw [ar_ua_o (by decide), ar_ua, if_neg (fun z => e z.2), ar_ua_o (by decide), y2.2.1 11 (by omega), brest 11 (by omega) (by omega) (by omega) (by omega) (by omega) (by omega)]; exact p5
      · rw [ar_ua, if_neg (fun z => e z.2), ar_ua_o (by decide), ar_ua_o (by decide), y2.2.1 12 (by omega), brest 12 (by omega) (by omega) (by omega) (by omega) (by omega) (by omega)]; exact p6
      · rw [ar_ua_o (by decide), ar_ua_o (by decide), ar_ua_o (by decide), (y2.2.2.1 (16 * p + j) (by omega)).1, brest 13 (by omega) (by omega) (by omega) (by omega) (by omega) (by omega)]; exact p7 j hj
      · rw [ar_ua_o (by decide), ar_ua_o (by decide), ar_ua_o (by decide), (y2.2.2.1 (16 * p + j) (by omega)).2, brest 14 (by omega) (by omega) (by omega) (by omega) (by omega) (by omega)]; exact p8 j hj
