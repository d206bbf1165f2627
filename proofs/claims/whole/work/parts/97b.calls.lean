/-! pen, word, call, end, wipe -/
theorem tc_pen {fu : Nat} : sem_pen Rel fu := by
  intro x X S q0 hq hR hF
  have hR0 := hR
  obtain ⟨A, ro, pa, ea, wa, K, T, V, N, n, np, G, ne, ew, eo, es, nw, wp, we, wc, wo, W, H, rfl, hX, hS, hP⟩ := hR
  have hn := hP.1.1
  have hs := hS.1.1
  have hx := hX.1.k 0 11 0 (by decide)
  have cls : ∀ v, (v = 0 ∨ v = 1) → ∃ r bv S', fX11_pen_L12 X (A 0) 2 0 v = some r ∧ (if sc S 1 = 30 then bW (fX12_holds S 1) (fun v15 X15 => (if v15 = 0 then (some ((0 : Int32), X15)) else fX12_pen_L33 X15 2 0 v)) else bW (fX12_holds S 0) (fun v15 X15 => (if v15 = 0 then (some ((0 : Int32), X15)) else fX12_pen_L33 X15 2 0 v))) = some (bv, S') ∧ semR Rel ["java/lang/IllegalStateException"] (A 0) X S' (wrL_pen r) bv.toInt64 := by
    intro v hv
    have h99 : -99 ≤ v ∧ v ≤ 99 := by rcases hv with rfl | rfl <;> decide
    unfold fX11_pen_L12 fX12_pen_L33
    rw [if_pos hx, hs]
    rcases nn01 hn with e | e
    · rw [x_full hX.1 hX.2.1 e, bEW_l, e, if_pos (show nI 30 = 30 from rfl), s_holdN (by decide), bW_some, if_pos rfl]
      exact ⟨_, _, _, rfl, rfl, sem_ex (i := 0) (by decide) (by decide) rfl (hR0.sk SK.t)⟩
    · have s2 : sc (uc S 0 0) 2 = nI (br K n).length := hS.1.2.1
      obtain ⟨X', z1, z2, z3, -⟩ := add_rel (S1 := uc S 0 0) (k := 2) (t := 0) (v := v) (nn := 0) hF hX hS hP ⟨e, by decide, Nm0.r, Or.inl ⟨rfl, h99⟩, fun z => absurd z (by decide), fun z => absurd z (by decide)⟩ (fun i hi => by rw [sc_uc, if_neg (by omega)]) rfl s2 (fun w hw => (hS.1.2.2.1 w hw).cg ⟨Or.inl, fun z => z.elim id (fun y => absurd y.1 (by decide))⟩)
      rw [z1, bEW_r, if_neg (fun z => by have := (nI_eq (by omega) (by omega : 30 < 2 ^ 31)).mp z; omega), s_hold0, bW_some, if_neg n10, s_drafts (S := uc S 0 0) (n := n) hs e (Or.inl rfl), bW_some]
      exact ⟨_, _, _, rfl, rfl, rfl, rfl, z2, z3⟩
  unfold fX11_pen fX12_pen fX12_pen_L15
  rcases hq with e | e
  · simp only [if_pos e]
    exact cls 0 (Or.inl rfl)
  · have e0 : ¬ q0 = 0 := by rw [e]; decide
    simp only [if_neg e0]
    exact cls 1 (Or.inr rfl)
theorem tc_call {fu : Nat} : sem_call Rel fu := by
  intro x X S q0 hR hF
  have hR0 := hR
  obtain ⟨A, ro, pa, ea, wa, K, T, V, N, n, np, G, ne, ew, eo, es, nw, wp, we, wc, wo, W, H, rfl, hX, hS, hP⟩ := hR
  have hn := hP.1.1
  have hs := hS.1.1
  have hx := hX.1.k 0 11 0 (by decide)
  obtain ⟨r, e1, e2⟩ := s_name (S := S) (v := q0)
  unfold fX11_call fX12_call fX12_call_L26
  rw [e1, bi_some, hs]
  rcases x_wname (X := X) q0 with ⟨ht, hc⟩ | ⟨ht, hc⟩
  · have er : r = 1 := TF_un e2 (Or.inl ⟨rfl, ht⟩)
    rw [hc, bE_r, if_pos hx, er, if_neg n10]
    rcases nn01 hn with e | e
    · rw [x_full hX.1 hX.2.1 e, bEW_l, e, if_pos (show nI 30 = 30 from rfl), s_holdN (by decide), bW_some, if_pos rfl]
      exact ⟨_, _, _, rfl, rfl, sem_ex (i := 1) (by decide) (by decide) rfl (hR0.sk SK.t)⟩
    · have s2 : sc (uc S 0 0) 2 = nI (br K n).length := hS.1.2.1
      obtain ⟨X', z1, z2, z3, -⟩ := add_rel (S1 := uc S 0 0) (k := 7) (t := q0) (v := 0) (nn := 0) hF hX hS hP ⟨e, by decide, ht.r, Or.inl ⟨rfl, by decide, by decide⟩, fun z => absurd z (by decide), fun z => absurd z (by decide)⟩ (fun i hi => by rw [sc_uc, if_neg (by omega)]) rfl s2 (fun w hw => (hS.1.2.2.1 w hw).cg ⟨Or.inl, fun z => z.elim id (fun y => absurd y.1 (by decide))⟩)
      rw [z1, bEW_r, if_neg (fun z => by have := (nI_eq (by omega) (by omega : 30 < 2 ^ 31)).mp z; omega), s_hold0, bW_some, if_neg n10, s_drafts (S := uc S 0 0) (n := n) hs e (Or.inl rfl), bW_some]
      exact ⟨_, _, _, rfl, rfl, rfl, rfl, z2, z3⟩
  · have er : r = 0 := TF_un e2 (Or.inr ⟨rfl, ht⟩)
    rw [hc, bE_l, er, if_pos rfl, s_holdN (by decide), bW_some, if_pos rfl]
    exact ⟨_, _, _, rfl, rfl, sem_ex (i := 0) (by decide) (by decide) rfl (hR0.sk SK.t)⟩
theorem tc_word {fu : Nat} : sem_word Rel fu := by
  intro x X S q0 hR hF
  have hR0 := hR
  obtain ⟨A, ro, pa, ea, wa, K, T, V, N, n, np, G, ne, ew, eo, es, nw, wp, we, wc, wo, W, H, rfl, hX, hS, hP⟩ := hR
  have hn := hP.1.1
  have hs := hS.1.1
  have hx := hX.1.k 0 11 0 (by decide)
  have hbl := br_len (K := K) n
  obtain ⟨r, e1, e2⟩ := s_name (S := S) (v := q0)
  obtain ⟨oa, d1, d2, d3, d4⟩ := hX.2.1
  unfold fX11_word fX12_word fX12_word_L42
  rw [e1, bi_some, hs, hS.1.2.1]
  rcases x_wname (X := X) q0 with ⟨ht, hc⟩ | ⟨ht, hc⟩
  · have er : r = 1 := TF_un e2 (Or.inl ⟨rfl, ht⟩)
    obtain ⟨tj, htj, rfl⟩ := id ht
    have bad : ∃ bv S', fX12_word_L47 S (nI tj) 2 = some (bv, S') ∧ semR Rel ["java/lang/IndexOutOfBoundsException", "java/lang/IllegalStateException"] (A 0) X S' (.inl "java/lang/IllegalStateException") bv.toInt64 := by
      unfold fX12_word_L47
      rw [s_holdN (by decide), bW_some, if_pos rfl]
      exact ⟨_, _, rfl, sem_ex (i := 1) (by decide) (by decide) rfl (hR0.sk SK.t)⟩
    obtain ⟨bv, S', y1, y2⟩ := bad
    have ho : fX1_openBlocks X (A 1) = some (nI (br K n).length) := by
      unfold fX1_openBlocks
      rw [if_pos d1.1, d3]
    have htl : fX1_tells X (A 1) (nI tj) = some (if aI X (A 10) tj = 0 then 0 else 1) := by
      unfold fX1_tells
      have k10 := hX.1.k 10 21 4 (by decide)
      rw [if_neg (nI_pos (by omega)), if_pos d1.1, hX.1.r 101 1 10 (by decide), bi_some, alen_of k10 (by decide), bi_some, if_neg (fun q => by have := (nI_leI (by omega) (by omega)).mp q; omega), bi_some, if_pos (inb_of (t := 1) k10 htj (by omega)), nI_clamp (by omega)]
      by_cases e : aI X (A 10) tj = 0
      · rw [if_pos e, if_pos e]
      · rw [if_neg e, if_neg e]
    rw [hc, bE_r, if_pos hx, hX.1.r 1100 0 1 (by decide), bi_some, if_pos d1.1, ho, bi_some, er, if_neg n10]
    by_cases eb : br K n = []
    · rw [eb]
      rw [if_neg (show ¬ 0 < nI ([] : List Nat).length by decide), if_neg (show ¬ 0 < nI ([] : List Nat).length by decide), bi_some, if_pos d1.1, htl, bi_some]
      rcases d4 tj htj with ⟨t1, t2⟩ | ⟨t1, t2⟩
      · -- the word has a block
        have sb : bit1 (sc S 3) (nI tj) = 1 := TF_un (hS.1.2.2.1 tj htj) (Or.inl ⟨rfl, t2⟩)
        rw [t1, if_neg n10, if_neg n10, if_pos (show (sc S 3 >>> (nI tj &&& 31)) &&& 1 = 1 from sb)]
        refine ⟨_, bv, S', rfl, ?_, y2⟩
        split <;> exact y1
      · have sb : bit1 (sc S 3) (nI tj) = 0 := TF_un (hS.1.2.2.1 tj htj) (Or.inr ⟨rfl, t2⟩)
        rw [t1, if_pos rfl, if_pos rfl, if_neg (show ¬ (sc S 3 >>> (nI tj &&& 31)) &&& 1 = 1 from fun z => by have z : bit1 (sc S 3) (nI tj) = 1 := z; rw [sb] at z; exact absurd z (by decide))]
        rcases nn01 hn with e | e
        · rw [x_full hX.1 hX.2.1 e, bEW_l, e, if_pos (show nI 30 = 30 from rfl)]
          exact ⟨_, bv, S', rfl, y1, y2⟩
        · have s21 : sc (uc (uc (uc S 0 0) 2 (sc (uc S 0 0) 2 + 1)) 3 (sc (uc (uc S 0 0) 2 (sc (uc S 0 0) 2 + 1)) 3 ||| ((1 : Int32) <<< (nI tj &&& 31)))) 2 = nI (opn (br K n).length 6) := by
            rw [sc_uc, if_neg (by omega), sc_uc, if_pos rfl, sc_uc, if_neg (by omega), hS.1.2.1, nI_1]
            rfl
          have s31 : sc (uc (uc (uc S 0 0) 2 (sc (uc S 0 0) 2 + 1)) 3 (sc (uc (uc S 0 0) 2 (sc (uc S 0 0) 2 + 1)) 3 ||| ((1 : Int32) <<< (nI tj &&& 31)))) 3 = sc S 3 ||| ((1 : Int32) <<< (nI tj &&& 31)) := by
            rw [sc_uc, if_pos rfl]
            rfl
          obtain ⟨X', z1, z2, z3, -⟩ := add_rel (S1 := uc (uc (uc S 0 0) 2 (sc (uc S 0 0) 2 + 1)) 3 (sc (uc (uc S 0 0) 2 (sc (uc S 0 0) 2 + 1)) 3 ||| ((1 : Int32) <<< (nI tj &&& 31)))) (k := 6) (t := nI tj) (v := 0) (nn := 0) hF hX hS hP ⟨e, by decide, ht.r, Or.inl ⟨rfl, by decide, by decide⟩, fun z => absurd z (by decide), fun _ => ⟨eb, fun i hi k6 kt => t2 ⟨i, hi, k6, kt⟩⟩⟩ (fun i hi => by rw [sc_uc, if_neg (by omega), sc_uc, if_neg (by omega), sc_uc, if_neg (by omega)]) rfl s21 (fun w hw => by
            rw [s31, bit_or (by omega) (by omega)]
            by_cases ew9 : w = tj
            · rw [if_pos ew9]
              exact Or.inl ⟨rfl, Or.inr ⟨rfl, by rw [ew9]⟩⟩
            · rw [if_neg ew9]
              exact (hS.1.2.2.1 w hw).cg ⟨Or.inl, fun z => z.elim id (fun y => absurd ((nI_eq (by omega) (by omega)).mp y.2).symm ew9)⟩)
          unfold fX12_word_L47
          rw [z1, bEW_r, if_neg (fun z => by have := (nI_eq (by omega) (by omega : 30 < 2 ^ 31)).mp z; omega), s_hold0, bW_some, if_neg n10, s_drafts (S := uc (uc (uc S 0 0) 2 (sc (uc S 0 0) 2 + 1)) 3 (sc (uc (uc S 0 0) 2 (sc (uc S 0 0) 2 + 1)) 3 ||| ((1 : Int32) <<< (nI tj &&& 31)))) (n := n) hs e (Or.inl rfl), bW_some]
          exact ⟨_, _, _, rfl, rfl, rfl, rfl, z2, z3⟩
    · have hp : 0 < nI (br K n).length := (nI_ltI (a := 0) (by omega) (by omega)).mpr (Nat.pos_of_ne_zero (fun z => eb (List.eq_nil_of_length_eq_zero z)))
      rw [if_pos hp, if_pos hp]
      refine ⟨_, bv, S', rfl, ?_, y2⟩
      split <;> exact y1
  · have er : r = 0 := TF_un e2 (Or.inr ⟨rfl, ht⟩)
    unfold fX12_word_L47
    rw [hc, bE_l, er, if_pos rfl, s_holdN (by decide), bW_some, if_pos rfl]
    exact ⟨_, _, _, rfl, rfl, sem_ex (i := 0) (by decide) (by decide) rfl (hR0.sk SK.t)⟩
theorem tc_end {fu : Nat} : sem_end Rel fu := by
  intro x X S hR hF
  have hR0 := hR
  obtain ⟨A, ro, pa, ea, wa, K, T, V, N, n, np, G, ne, ew, eo, es, nw, wp, we, wc, wo, W, H, rfl, hX, hS, hP⟩ := hR
  have hn := hP.1.1
  have hs := hS.1.1
  have hx := hX.1.k 0 11 0 (by decide)
  have hbl := br_len (K := K) n
  obtain ⟨oa, d1, d2, d3, d4⟩ := hX.2.1
  have ho : fX1_openBlocks X (A 1) = some (nI (br K n).length) := by
    unfold fX1_openBlocks
    rw [if_pos d1.1, d3]
  have bad : ∃ bv S', fX12_end_L22 S 1 = some (bv, S') ∧ semR Rel ["java/lang/IllegalStateException"] (A 0) X S' (.inl "java/lang/IllegalStateException") bv.toInt64 := by
    unfold fX12_end_L22
    rw [s_holdN (by decide), bW_some, if_pos rfl]
    exact ⟨_, _, rfl, sem_ex (i := 0) (by decide) (by decide) rfl (hR0.sk SK.t)⟩
  obtain ⟨bv, S', y1, y2⟩ := bad
  unfold fX11_end fX12_end fX12_end_L17
  rw [if_pos hx, hX.1.r 1100 0 1 (by decide), bi_some, if_pos d1.1, ho, bi_some, hs, hS.1.2.1]
  by_cases eb : br K n = []
  · rw [eb, if_neg (show ¬ 0 < nI ([] : List Nat).length by decide), if_pos (show nI ([] : List Nat).length = 0 from rfl)]
    exact ⟨_, bv, S', rfl, y1, y2⟩
  · have hlp : 0 < (br K n).length := Nat.pos_of_ne_zero (fun z => eb (List.eq_nil_of_length_eq_zero z))
    have hp : 0 < nI (br K n).length := (nI_ltI (a := 0) (by omega) (by omega)).mpr hlp
    rw [if_pos hp, if_neg (nI_ne0 hlp (by omega))]
    rcases nn01 hn with e | e
    · rw [x_full hX.1 hX.2.1 e, bEW_l, e, if_pos (show nI 30 = 30 from rfl)]
      exact ⟨_, bv, S', rfl, y1, y2⟩
    · have s21 : sc (uc (uc S 0 0) 2 (sc (uc S 0 0) 2 - 1)) 2 = nI (opn (br K n).length 8) := by
        rw [sc_uc, if_pos rfl, sc_uc, if_neg (by omega), hS.1.2.1]
        exact opn_n (b := (br K n).length) (k := 8) (fun _ => hlp)
      obtain ⟨X', z1, z2, z3, z4, z5, z6, z7⟩ := add_rel (S1 := uc (uc S 0 0) 2 (sc (uc S 0 0) 2 - 1)) (k := 8) (t := 0) (v := 0) (nn := 0) hF hX hS hP ⟨e, by decide, Nm0.r, Or.inl ⟨rfl, by decide, by decide⟩, fun _ => eb, fun z => absurd z (by decide)⟩ (fun i hi => by rw [sc_uc, if_neg (by omega), sc_uc, if_neg (by omega)]) rfl s21 (fun w hw => (hS.1.2.2.1 w hw).cg ⟨Or.inl, fun z => z.elim id (fun y => absurd y.1 (by decide))⟩)
      unfold fX12_end_L22 fX1_openBlocks
      rw [z1, bEW_r, if_pos z4, z5, bi_some, if_pos z6, if_pos z6, bi_some, z7, if_neg (fun z => by have := (nI_eq (by omega) (by omega : 30 < 2 ^ 31)).mp z; omega), s_hold0, bW_some, if_neg n10, s_drafts (S := uc (uc S 0 0) 2 (sc (uc S 0 0) 2 - 1)) (n := n) hs e (Or.inl rfl), bW_some, addS_sc (by omega), s21]
      exact ⟨_, _, _, rfl, rfl, rfl, rfl, z2, z3⟩
/-- the draft is emptied -/
theorem x_told {fu d tl : Nat} : ∀ (t i m : Nat) (X : Mem), i + t = 4 → mK X d = some (1, 0) → mR X 101 d = some tl → mK X tl = some (21, 4) → (∀ j, j < i → aI X tl j = 0) → ∃ X', fX1_makeEmpty_L12 fu (m + t + 1) X d (nI i) = some X' ∧ AFr tl X X' ∧ ∀ j, j < 4 → aI X' tl j = 0 := by
  intro t
  induction t with
  | zero =>
    intro i m X hi h1 h2 h3 h4
    have hi : i = 4 := hi
    subst hi
    refine ⟨X, ?_, AFr.rfl9, h4⟩
    show fX1_makeEmpty_L12b fu (fX1_makeEmpty_L12 fu m) X d (nI 4) = _
    unfold fX1_makeEmpty_L12b
    rw [if_pos h1, h2, bi_some, alen_of h3 (by decide), bi_some, if_pos (Int32.le_refl _)]
  | succ t ih =>
    intro i m X hi h1 h2 h3 h4
    show ∃ X', fX1_makeEmpty_L12b fu (fX1_makeEmpty_L12 fu (m + t + 1)) X d (nI i) = some X' ∧ _
    unfold fX1_makeEmpty_L12b
    rw [if_pos h1, h2, bi_some, alen_of h3 (by decide), bi_some, if_neg (fun q => by have := (nI_leI (by omega) (by omega)).mp q; omega), bi_some, if_pos (inb_of (t := 1) h3 (by omega : i < 4) (by omega)), nI_clamp (by omega), nI_1]
    obtain ⟨X', z1, z2, z3⟩ := ih (i + 1) m (sI X tl i 0) (by omega) h1 h2 h3 (fun j hj => by
      rw [aI_sI]
      by_cases e : j = i
      · rw [if_pos ⟨rfl, e⟩]
      · rw [if_neg (fun q => e q.2)]
        exact h4 j (by omega))
    exact ⟨X', z1, AFr.sI.trans z2, z3⟩
theorem x_wipe {fu : Nat} {A ro : Nat → Nat} {K T V N : Nat → Int32} {X : Mem} (hfu : 100 ≤ fu) (B : BaseX A ro X) : ∃ X', fX1_makeEmpty fu X (A 1) = some X' ∧ Fm (fun b => b = A 1 ∨ b = A 10) X X' ∧ mR X' = mR X ∧ mK X' = mK X ∧ mZ X' = mZ X ∧ DrfX A ro K T V N 0 X' := by
  have h1 := B.k 1 1 0 (by decide)
  have h10 := B.k 10 21 4 (by decide)
  obtain ⟨X', z1, z2, z3⟩ := x_told (fu := fu) (d := A 1) (tl := A 10) 4 0 (fu - 5) (wI (wI X 102 (A 1) 0) 103 (A 1) 0) rfl h1 (B.r 101 1 10 (by decide)) h10 (fun j hj => absurd hj (Nat.not_lt_zero j))
  rw [show fu - 5 + 4 + 1 = fu by omega] at z1
  refine ⟨X', by unfold fX1_makeEmpty; rw [if_pos h1]; exact z1, ?_, z2.2.2.1, z2.1, z2.2.2.2.2.2.1, fun _ => 0, ⟨by rw [z2.1]; exact h1, by rw [z2.2.2.1]; exact B.r 100 1 9 (by decide), by rw [z2.1]; exact B.k 9 23 30 (by decide), ?_, fun i hi => absurd hi (Nat.not_lt_zero i)⟩, fun i hi => absurd hi (Nat.not_lt_zero i), ?_, fun t ht => Or.inr ⟨z3 t ht, fun ⟨i, hi, _⟩ => Nat.not_lt_zero i hi⟩⟩
  · exact Fm.trans (P := fun b => b = A 1 ∨ b = A 10) (Fm.trans (P := fun b => b = A 1 ∨ b = A 10) (Fm.wI (Or.inl (Or.inl rfl))) (Fm.wI (Or.inl (Or.inl rfl)))) (z2.nfr.fm.mono (fun b _ z => Or.inr z))
  · rw [z2.2.1, mI_wI, if_neg (by omega), mI_wI, if_pos ⟨rfl, rfl⟩]
    rfl
  · rw [z2.2.1, mI_wI, if_pos ⟨rfl, rfl⟩]
    rfl
theorem DrfP_0 {K T V N : Nat → Int32} : DrfP K T V N 0 := ⟨by omega, fun i hi => absurd hi (Nat.not_lt_zero i), fun i hi => absurd hi (Nat.not_lt_zero i), fun i hi => absurd hi (Nat.not_lt_zero i), fun i hi => absurd hi (Nat.not_lt_zero i), fun i j hi => absurd hi (Nat.not_lt_zero i)⟩
theorem DrfS_0 {K T V N : Nat → Int32} {S : SM} (h1 : sc S 1 = 0) (h2 : sc S 2 = 0) (h3 : sc S 3 = 0) : DrfS K T V N 0 S := ⟨h1, h2, fun t ht => by rw [h3]; exact Or.inr ⟨bit_z (by omega), fun ⟨i, hi, _⟩ => Nat.not_lt_zero i hi⟩, fun i hi => absurd hi (Nat.not_lt_zero i)⟩
theorem tc_wipe {fu : Nat} (hfu : 5000 ≤ fu) : sem_wipe Rel fu := by
  intro x X S hR hF
  obtain ⟨A, ro, pa, ea, wa, K, T, V, N, n, np, G, ne, ew, eo, es, nw, wp, we, wc, wo, W, H, rfl, ⟨B, D, P, E, Wk, Wl, Hg⟩, ⟨sD, sP, sE, sW, sL, s18⟩, ⟨pD, pP, pE, pW, pL⟩⟩ := hR
  have hx := B.k 0 11 0 (by decide)
  obtain ⟨X', z1, fm, z3, z4, z5, z6⟩ := x_wipe (fu := fu) (K := K) (T := T) (V := V) (N := N) (by omega) B
  obtain ⟨oa, d1, -⟩ := D
  have hP : ∀ (L : List Nat), 1 ∉ L → 10 ∉ L → ∀ a, ro a ∈ L → ¬ (a = A 1 ∨ a = A 10) := by
    rintro L h1 h2 a ha (z | z)
    · rw [z, B.o 1 1 0 (by decide)] at ha; exact h1 ha
    · rw [z, B.o 10 21 4 (by decide)] at ha; exact h2 ha
  have id9 : ∀ a, a < mZ X → ro a = ro a := fun _ _ => rfl
  have B1 : BaseX A ro X' := B.fm hF fm (RfK.of z3) id9 (B.2.2.fm hF (B.k 4 0 0 (by decide)) fm id9 (hP [4] (by decide) (by decide) _ (by rw [B.o 4 0 0 (by decide)]; decide)))
  refine ⟨nI n, X', uc (uc (uc (uc S 0 0) 1 0) 2 0) 3 0, ?_, ?_, ?_, by rw [z5]; exact Nat.le_refl _, fun a _ => by rw [z4]⟩
  · unfold fX11_wipe fX1_length
    rw [if_pos hx, B.r 1100 0 1 (by decide), bi_some, if_pos d1.1, if_pos d1.1, bi_some, bi_some, if_pos d1.1, z1, bi_some, d1.2.2.2.1]
  · unfold fX12_wipe fX12_wipes
    rw [bW_some, sc_uc, if_neg (by decide), sD.1]
  · exact ⟨A, ro, pa, ea, wa, K, T, V, N, 0, np, G, ne, ew, eo, es, nw, wp, we, wc, wo, W, H, rfl, ⟨B1, z6, P.fm B hF fm id9 (hP _ (by decide) (by decide)), E.fm B hF fm id9 (hP _ (by decide) (by decide)), Wk.fm B hF fm id9 (hP _ (by decide) (by decide)), Wl.fm B hF fm (hP _ (by decide) (by decide)), Hg.fm Wk hF fm (hP _ (by decide) (by decide))⟩, ⟨DrfS_0 rfl rfl rfl, sP, sE, sW, sL, s18⟩, ⟨DrfP_0, pP, pE, pW, pL⟩⟩
