/-! WHAT IS ASKED: strokes, forms, likeness, works -/
theorem DrA.stroke {dr ra ua k a b c d j : Nat} {R U : Nat → Int32} {X : Mem} {x u : Int32} (h : DrA dr ra ua k a b c d R U X) (hx : onG x) (hj : j < 16) : fX2_hasStroke X dr x (nI j) u = some (if bit1 (if u = 0 then R j else U j) x = 1 then 1 else 0) := by
  obtain ⟨a1, a2, a3, a4, a5, a6, a7, a8, a9⟩ := h
  have l15 : ∀ (r : Nat) (F : Nat → Int32), mK X r = some (20, 16) → (∀ j, j < 16 → aI X r j = F j) → fX2_hasStroke_L15 X x (nI j) (some r) = some (if bit1 (F j) x = 1 then 1 else 0) := by
    intro r F k1 k2
    unfold fX2_hasStroke_L15
    rw [c_onG, bi_some, if_pos hx, if_neg (by decide), if_neg (nI_pos (by omega)), bi_some, alen_of k1 (by decide), bi_some, if_neg (fun q => by have := (nI_leI (by omega) (by omega)).mp q; omega), if_pos (inb_of (t := 0) k1 hj (by omega)), nI_clamp (by omega), k2 j hj]
    by_cases e : bit1 (F j) x = 1
    · rw [if_pos (show (F j >>> (x &&& 31)) &&& 1 = 1 from e), if_pos e]
    · rw [if_neg (show ¬ (F j >>> (x &&& 31)) &&& 1 = 1 from e), if_neg e]
  unfold fX2_hasStroke
  by_cases e : u = 0
  · rw [if_pos e, if_pos a1, a2, l15 ra R a4 a8, if_pos e]
  · rw [if_neg e, if_pos a1, a3, l15 ua U a5 a9, if_neg e]
theorem iv01 {c : Prop} {hd : Decidable c} : (if c then (1 : Int32) else 0) = 0 ∨ (if c then (1 : Int32) else 0) = 1 := by
  by_cases h : c
  · rw [if_pos h]
    exact Or.inr rfl
  · rw [if_neg h]
    exact Or.inl rfl
theorem n10 : ¬ (1 : Int32) = 0 := by decide
theorem t_isDrawn {fu : Nat} : sem_isDrawn Rel fu := by
  intro x X S q0 q1 q2 q3 hq3 hR hF
  have hR0 := hR
  obtain ⟨A, ro, pa, ea, wa, K, T, V, N, n, np, G, ne, ew, eo, es, nw, wp, we, wc, wo, W, H, rfl, ⟨B, D, P, E, Wk, Wl, Hg⟩, ⟨sD, sP, sE, sW, sL, s18⟩, ⟨pD, pP, pE, pW, pL⟩⟩ := hR
  have b1 := pP.1
  have hx := B.k 0 11 0 (by decide)
  obtain ⟨r, e1, e2⟩ := s_prog (v := q0) sP.1 b1
  unfold fX11_isDrawn fX12_isDrawn fX12_isDrawn_L21
  rw [if_pos hx, e1, bi_some, q_isOn, c_onG, c_onG]
  have bad : ∃ bv S', fX12_isDrawn_L22 S q0 q1 q2 q3 1 = some (bv, S') ∧ semR Rel ["java/lang/IndexOutOfBoundsException"] (A 0) X S' (.inl "java/lang/IndexOutOfBoundsException") (if bv = 0 then (0 : Int64) else 1) := by
    unfold fX12_isDrawn_L22
    rw [s_holdN (by decide), bW_some, if_pos rfl]
    exact ⟨_, _, rfl, sem_ex (i := 0) (by decide) (by decide) rfl (hR0.sk SK.t)⟩
  obtain ⟨bv, S', z1, z2⟩ := bad
  rcases x_prog B P b1 q0 with ⟨p, hp, rfl, e⟩ | ⟨hn, e⟩
  · have er : r = 1 := TF_un e2 (Or.inl ⟨rfl, p, hp, rfl⟩)
    rw [e, bE_r, bi_some, er, if_neg n10, bi_some, bi_some]
    by_cases h1 : onG q1
    · rw [if_pos h1, if_neg n10]
      by_cases h2 : onG q2
      · obtain ⟨j, hj, rfl⟩ := onG_of h2
        obtain ⟨os, pa9, wa9, fo, dr, ra, ua, oa, i1, i2, i3, i4, i5, -⟩ := (P.2 p hp).2
        have hs := (sP.2 p hp).2.2.2.2
        have ia : ∀ r9, (r9 = 13 ∨ r9 = 14) → inS 0 r9 (nI (16 * p + j)) = true := by
          rintro r9 (z | z) <;> subst z <;> exact inS_ok (by decide) rfl (by show 16 * p + j < 480; omega) (by decide)
        have on2 : onG q1 ∧ onG (nI j) := ⟨h1, onG_nI hj⟩
        have l60 : ∀ (S9 : SM) (v : Int32), fX12_isDrawn_L60 S9 q1 v = some (if bit1 v q1 = 1 then 1 else 0, S9) := by
          intro S9 v
          unfold fX12_isDrawn_L60
          by_cases eb : bit1 v q1 = 1
          · rw [if_pos eb, if_pos (show (v >>> (q1 &&& 31)) &&& 1 = 1 from eb)]
          · rw [if_neg eb, if_neg (show ¬ (v >>> (q1 &&& 31)) &&& 1 = 1 from eb)]
        have l22 : fX12_isDrawn_L22 S (nI p) q1 (nI j) q3 0 = some (if bit1 (if q3 = 0 then cR (pgF (G p)) j else cU (pgF (G p)) j) q1 = 1 then 1 else 0, uc S 0 0) := by
          unfold fX12_isDrawn_L22
          rw [s_hold0, bW_some, if_neg n10, q_idx, if_pos (ia 13 (Or.inl rfl)), if_pos (ia 14 (Or.inr rfl)), nI_clamp (by omega), l60, l60, ar_uc, ar_uc, hs.2.1 j hj, hs.2.2 j hj]
          by_cases e3 : q3 = 0
          · rw [if_pos e3, if_pos e3]
          · rw [if_neg e3, if_neg e3]
        rw [if_pos h2, if_neg n10, if_pos i1.1.1, i1.2.2.2.2.2.1, bi_some, if_pos i5.1, i5.stroke h1 hj, bi_some, if_pos iv01, if_pos on2, bi_some, if_neg n10, l22]
        exact ⟨_, _, _, rfl, rfl, rfl, rfl, hR0.sk SK.t, K9⟩
      · rw [if_neg h2, if_pos rfl, if_neg (fun z => h2 z.2), bi_some, if_pos rfl]
        exact ⟨_, bv, S', rfl, z1, z2⟩
    · rw [if_neg h1, if_pos rfl, if_neg (fun z => h1 z.1), bi_some, if_pos rfl]
      exact ⟨_, bv, S', rfl, z1, z2⟩
  · have er : r = 0 := TF_un e2 (Or.inr ⟨rfl, hn⟩)
    rw [e, bE_l, er, if_pos rfl]
    exact ⟨_, bv, S', rfl, z1, z2⟩
theorem FoG_iff {g g' : Pg} (h : GB g) (h' : GB g') : FoG g g' ↔ (pgn g = pgn g' ∧ ∀ i, i < pgn g → cdC (pgK g) (pgT g) (pgV g) (pgN g) i = cdC (pgK g') (pgT g') (pgV g') (pgN g') i) := by
  constructor
  · rintro ⟨h1, h2⟩
    exact ⟨h1, fun i hi => (cd_eq h.1 h'.1 hi (by omega)).mpr (h2 i hi)⟩
  · rintro ⟨h1, h2⟩
    exact ⟨h1, fun i hi => (cd_eq h.1 h'.1 hi (by omega)).mp (h2 i hi)⟩
theorem x_form {fu a a' : Nat} {ro : Nat → Nat} {g g' : Pg} {X : Mem} (hfu : 100 ≤ fu) (h : PrgX ro a g X) (h' : PrgX ro a' g' X) (hB : GB g) (hB' : GB g') : ∃ r, fX5_hasFormOf fu X a (some a') = some r ∧ TF r (FoG g g') := by
  obtain ⟨os, pa, wa, fo, dr, ra, ua, oa, h1, -⟩ := h
  obtain ⟨os', pa', wa', fo', dr', ra', ua', oa', i1, -⟩ := h'
  obtain ⟨r, z1, z2⟩ := d_hasForm (fu := fu) hfu hB.1.1 hB'.1.1 h1.1.1 h1.2.2.2.1 h1.2.2.2.2.1 i1.1.1 i1.2.2.2.1 i1.2.2.2.2.1 h1.2.2.2.2.2.2.2.2.2.2.2.2.2 i1.2.2.2.2.2.2.2.2.2.2.2.2.2
  exact ⟨r, z1, z2.cg (FoG_iff hB hB').symm⟩
theorem t_haveOneForm {fu : Nat} (hfu : 5000 ≤ fu) : sem_haveOneForm Rel fu := by
  intro x X S q0 q1 hR hF
  have hR0 := hR
  obtain ⟨A, ro, pa, ea, wa, K, T, V, N, n, np, G, ne, ew, eo, es, nw, wp, we, wc, wo, W, H, rfl, ⟨B, D, P, E, Wk, Wl, Hg⟩, ⟨sD, sP, sE, sW, sL, s18⟩, ⟨pD, pP, pE, pW, pL⟩⟩ := hR
  have b1 := pP.1
  have hx := B.k 0 11 0 (by decide)
  unfold fX11_haveOneForm fX12_haveOneForm
  rw [if_pos hx]
  have bad : ¬ ((∃ j, j < np ∧ q0 = nI j) ∧ ∃ j, j < np ∧ q1 = nI j) → ∃ bv S', (bW (fX12_areTwo S q0 q1) fun v3 X3 => (if v3 = 0 then (some ((0 : Int32), X3)) else (bW (fX12_oneForm fu X3 q0 q1) fun v12 X12 => (if v12 = 0 then (some ((0 : Int32), X12)) else (some ((1 : Int32), X12)))))) = some (bv, S') ∧ semR Rel ["java/lang/IndexOutOfBoundsException"] (A 0) X S' (.inl "java/lang/IndexOutOfBoundsException") (if bv = 0 then (0 : Int64) else 1) := by
    intro hb
    rcases s_two (u := q0) (v := q1) sP.1 b1 with ⟨f1, f2, f3⟩ | ⟨f1, f2⟩
    · exact absurd ⟨f1, f2⟩ hb
    · rw [f2, bW_some, if_pos rfl]
      exact ⟨_, _, rfl, sem_ex (i := 0) (by decide) (by decide) rfl (hR0.sk SK.t)⟩
  rcases x_prog B P b1 q0 with ⟨p, hp, rfl, e⟩ | ⟨hn, e⟩
  · rw [e, bE_r]
    rcases x_prog B P b1 q1 with ⟨q, hq, rfl, e'⟩ | ⟨hn, e'⟩
    · obtain ⟨r, s4, s5⟩ := x_form (fu := fu) (by omega) (P.2 p hp).2 (P.2 q hq).2 (pP.2 p hp) (pP.2 q hq)
      obtain ⟨os, pa9, wa9, fo, dr9, ra, ua, oa, h1, -⟩ := (P.2 p hp).2
      rcases s_two (u := nI p) (v := nI q) sP.1 b1 with ⟨f1, f2, f3⟩ | ⟨f1, f2⟩
      · obtain ⟨r', S1, k1, k3, k2⟩ := s_form (fu := fu) (by omega) (sP.sk (SK.t (v := 0))) pP hp hq
        have hs : sc S1 0 = 0 := by rw [k3.1, sc_uc, if_pos rfl]
        rw [e', bE_r, bi_some, if_pos h1.1.1, s4, bi_some, if_pos s5.b, f3, bW_some, if_neg (by decide), k1, bW_some, TF_un k2 s5]
        rcases s5.b with rfl | rfl
        · rw [if_pos rfl]
          exact ⟨_, _, _, rfl, rfl, hs, rfl, hR0.sk (SK.t.trans k3.sk), K9⟩
        · rw [if_neg (by decide)]
          exact ⟨_, _, _, rfl, rfl, hs, rfl, hR0.sk (SK.t.trans k3.sk), K9⟩
      · exact absurd ⟨⟨p, hp, rfl⟩, ⟨q, hq, rfl⟩⟩ f1
    · obtain ⟨bv, S', z1, z2⟩ := bad (fun z => hn z.2)
      rw [e', bE_l]
      exact ⟨_, bv, S', rfl, z1, z2⟩
  · obtain ⟨bv, S', z1, z2⟩ := bad (fun z => hn z.1)
    rw [e, bE_l]
    exact ⟨_, bv, S', rfl, z1, z2⟩
theorem BaseX.fm2 {P : Nat → Prop} {A ro : Nat → Nat} {X X1 : Mem} (h : BaseX A ro X) (hf : FreshM X) (k : Fm P X X1) (r : ∀ q ∈ bR, mR X1 q.1 (A q.2.1) = mR X q.1 (A q.2.1)) (hP : DskX A ro X1) : BaseX A ro X1 := by
  refine ⟨fun q hq => ?_, fun q hq => ?_, hP⟩
  · obtain ⟨h1, h2⟩ := h.1 q hq
    exact ⟨k.k hf h1, h2⟩
  · rw [r q hq]
    exact h.2.1 q hq
theorem bR_4 : ∀ q ∈ bR, q.2.1 ≠ 4 ∧ ∃ p ∈ bK, p.1 = q.2.1 := by decide
theorem t_likeness {fu : Nat} (hfu : 5000 ≤ fu) : sem_likeness Rel fu := by
  intro x X S q0 q1 hR hF
  have hR0 := hR
  obtain ⟨A, ro, pa, ea, wa, K, T, V, N, n, np, G, ne, ew, eo, es, nw, wp, we, wc, wo, W, H, rfl, ⟨B, D, P, E, Wk, Wl, Hg⟩, ⟨sD, sP, sE, sW, sL, s18⟩, ⟨pD, pP, pE, pW, pL⟩⟩ := hR
  have b1 := pP.1
  have hx := B.k 0 11 0 (by decide)
  unfold fX11_likeness fX12_likeness
  rw [if_pos hx]
  have bad : ¬ ((∃ j, j < np ∧ q0 = nI j) ∧ ∃ j, j < np ∧ q1 = nI j) → ∃ bv S', (bW (fX12_areTwo S q0 q1) fun v3 X3 => (if v3 = 0 then (some ((0 : Int32), X3)) else (bW (fX12_longestRow fu X3 q0 q1) fun v15 X15 => (if inS 0 5 q0 = true then (if inS 0 5 q1 = true then (if ((ar X15 5 q0.toNatClampNeg) + (ar X15 5 q1.toNatClampNeg)) = 0 then none else (some ((((200 : Int32) * v15) / ((ar X15 5 q0.toNatClampNeg) + (ar X15 5 q1.toNatClampNeg))), X15))) else none) else none)))) = some (bv, S') ∧ semR Rel ["java/lang/IndexOutOfBoundsException"] (A 0) X S' (.inl "java/lang/IndexOutOfBoundsException") bv.toInt64 := by
    intro hb
    rcases s_two (u := q0) (v := q1) sP.1 b1 with ⟨f1, f2, f3⟩ | ⟨f1, f2⟩
    · exact absurd ⟨f1, f2⟩ hb
    · rw [f2, bW_some, if_pos rfl]
      exact ⟨_, _, rfl, sem_ex (i := 0) (by decide) (by decide) rfl (hR0.sk SK.t)⟩
  rcases x_prog B P b1 q0 with ⟨p, hp, rfl, e⟩ | ⟨hn, e⟩
  · rw [e, bE_r]
    rcases x_prog B P b1 q1 with ⟨q, hq, rfl, e'⟩ | ⟨hn, e'⟩
    · have gb := pP.2 p hp
      have gb' := pP.2 q hq
      obtain ⟨os, pa9, wa9, fo, dr9, ra, ua, oa, h1, h2, h3, h4, h5, ⟨-, -, -, -, r5, -⟩, -⟩ := (P.2 p hp).2
      obtain ⟨os', pa9', wa9', fo', dr9', ra', ua', oa', i1, i2, i3, i4, i5, ⟨-, -, -, -, r5', -⟩, -⟩ := (P.2 q hq).2
      obtain ⟨u1, u2, c1, c2, c3, c4, c5, c6, c7⟩ := B.2.2
      have n50 : ∀ {a b : Nat}, ro a = 50 → ro b = 17 → a ≠ b := fun h9 h8 z => by rw [z, h8] at h9; exact absurd h9 (by decide)
      obtain ⟨X1, u', v', k1, k2, k3, k4, k5⟩ := e_longest (fu := fu) (de := A 4) (d1 := u1) (d2 := u2) (f1 := fo) (f2 := fo') (u := u1) (v := u2) (c := cdC (pgK (G p)) (pgT (G p)) (pgV (G p)) (pgN (G p))) (c' := cdC (pgK (G q)) (pgT (G q)) (pgV (G q)) (pgN (G q))) (by omega) gb.1.1 gb'.1.1 c5 (n50 r5 c6) (n50 r5 c7) (n50 r5' c6) (n50 r5' c7) (Or.inl ⟨rfl, rfl⟩) (B.k 4 0 0 (by decide)) c1 c2 c3 c4 h1.2.2.2.2.1 i1.2.2.2.2.1 h1.2.2.2.2.2.2.2.2.2.2.2.2.2 i1.2.2.2.2.2.2.2.2.2.2.2.2.2
      rcases s_two (u := nI p) (v := nI q) sP.1 b1 with ⟨f1, f2, f3⟩ | ⟨f1, f2⟩
      · have sP' := sP.sk (SK.t (v := 0))
        obtain ⟨S1, m1, m2⟩ := q_longest (fu := fu) (p := p) (q := q) (by omega) (by omega) gb.1 gb'.1 (by omega) (sP'.2 p hp).1 (sP'.2 q hq).1
        have hs : sc S1 0 = 0 := by rw [m2.1, sc_uc, if_pos rfl]
        have hn0 := gb.2.1
        have hn1 := gb'.2.1
        have hn2 := gb.1.1
        have hn3 := gb'.1.1
        have s5 : ∀ z, ar S1 5 z = ar (uc S 0 0) 5 z := fun z => by rw [m2.2.1 5 (by omega) (by omega) (by omega) (by omega)]
        have el : lcR (cdC (pgK (G p)) (pgT (G p)) (pgV (G p)) (pgN (G p))) (cdC (pgK (G q)) (pgT (G q)) (pgV (G q)) (pgN (G q))) (pgn (G p)) (pgn (G q)) = lcR (cdR (pgK (G p)) (pgT (G p)) (pgV (G p)) (pgN (G p))) (cdR (pgK (G q)) (pgT (G q)) (pgV (G q)) (pgN (G q))) (pgn (G p)) (pgn (G q)) := lcR_cg (fun i j hi hj => cd_eq gb.1 gb'.1 hi hj) _ _ (Nat.le_refl _) (Nat.le_refl _)
        have fm := k2.fm
        have hP : ∀ (L : List Nat), 4 ∉ L → 17 ∉ L → ∀ a, ro a ∈ L → ¬ (a = A 4 ∨ a = u1 ∨ a = u2) := by
          rintro L y1 y2 a ha (z | z | z)
          · rw [z, B.o 4 0 0 (by decide)] at ha; exact y1 ha
          · rw [z, c6] at ha; exact y2 ha
          · rw [z, c7] at ha; exact y2 ha
        have id9 : ∀ a, a < mZ X → ro a = ro a := fun _ _ => rfl
        have B' : BaseX A ro X1 := B.fm2 hF fm (fun y hy => by
          obtain ⟨y1, p9, y2, y3⟩ := bR_4 y hy
          refine k2.2.2.2.2.2.1 _ _ (fun z => ?_)
          have o1 := (B.1 p9 y2).2
          rw [y3, z, B.o 4 0 0 (by decide)] at o1
          exact y1 o1.symm) (by
          rcases k3 with ⟨rfl, rfl⟩ | ⟨rfl, rfl⟩
          · exact ⟨_, _, k4, k5, by rw [k2.1]; exact c3, by rw [k2.1]; exact c4, c5, c6, c7⟩
          · exact ⟨_, _, k4, k5, by rw [k2.1]; exact c4, by rw [k2.1]; exact c3, c5.symm, c7, c6⟩)
        have hRel : Rel (A 0) X1 S1 := ⟨A, ro, pa, ea, wa, K, T, V, N, n, np, G, ne, ew, eo, es, nw, wp, we, wc, wo, W, H, rfl, ⟨B', D.fm B hF fm id9 (hP _ (by decide) (by decide)), P.fm B hF fm id9 (hP _ (by decide) (by decide)), E.fm B hF fm id9 (hP _ (by decide) (by decide)), Wk.fm B hF fm id9 (hP _ (by decide) (by decide)), Wl.fm B hF fm (hP _ (by decide) (by decide)), Hg.fm Wk hF fm (hP _ (by decide) (by decide))⟩, RelS.sk ⟨sD, sP, sE, sW, sL, s18⟩ (SK.t.trans m2.sk), ⟨pD, pP, pE, pW, pL⟩⟩
        have i5 : ∀ z, z < 30 → inS 0 5 (nI z) = true := fun z hz => inS_ok (by decide) rfl hz (by decide)
        rw [e', bE_r, bi_some, if_pos h1.1.1, h1.1.len, bi_some, bi_some, if_pos i1.1.1, i1.1.len, bi_some, nI_add, if_pos (show 0 < nI (pgn (G p) + pgn (G q)) from (nI_ltI (a := 0) (by omega) (by omega)).mpr (by omega)), B.r 1103 0 4 (by decide), bi_some, if_pos (B.k 4 0 0 (by decide)), h1.2.2.2.1, i1.2.2.2.1, k1, bW_some, if_neg (nI_ne0 (by omega) (by omega)), f3, bW_some, if_neg (by decide), m1, bW_some, if_pos (i5 p (by omega)), if_pos (i5 q (by omega)), nI_clamp (show p < 2 ^ 31 by omega), nI_clamp (show q < 2 ^ 31 by omega), s5, s5, (sP'.2 p hp).1.1, (sP'.2 q hq).1.1, nI_add, if_neg (nI_ne0 (by omega) (by omega)), el]
        exact ⟨_, _, _, rfl, rfl, hs, rfl, hRel, by rw [k2.2.2.2.2.1]; exact Nat.le_refl _, fun a _ => by rw [k2.1]⟩
      · exact absurd ⟨⟨p, hp, rfl⟩, ⟨q, hq, rfl⟩⟩ f1
    · obtain ⟨bv, S', z1, z2⟩ := bad (fun z => hn z.2)
      rw [e', bE_l]
      exact ⟨_, bv, S', rfl, z1, z2⟩
  · obtain ⟨bv, S', z1, z2⟩ := bad (fun z => hn z.1)
    rw [e, bE_l]
    exact ⟨_, bv, S', rfl, z1, z2⟩
theorem t_meets {fu : Nat} (hfu : 5000 ≤ fu) : sem_meets Rel fu := by
  intro x X S q0 hR hF
  have hR0 := hR
  obtain ⟨A, ro, pa, ea, wa, K, T, V, N, n, np, G, ne, ew, eo, es, nw, wp, we, wc, wo, W, H, rfl, ⟨B, D, P, E, Wk, Wl, Hg⟩, ⟨sD, sP, sE, sW, sL, s18⟩, ⟨pD, pP, pE, pW, pL⟩⟩ := hR
  have b1 := pW.1
  have hx := B.k 0 11 0 (by decide)
  obtain ⟨r, e1, e2⟩ := s_work (v := q0) sW.1 b1
  unfold fX11_meets fX12_meets fX12_meets_L14
  rw [if_pos hx, e1, bi_some]
  rcases x_work B Wk b1 q0 with ⟨w, hw, rfl, e⟩ | ⟨hn, e⟩
  · have er : r = 1 := TF_un e2 (Or.inl ⟨rfl, w, hw, rfl⟩)
    obtain ⟨w1, w2, -⟩ := Wk.2.2 w hw
    obtain ⟨r1, m1, m2⟩ := x_meets (fu := fu) (by omega) P E Wk pP pE pW hw
    obtain ⟨r2, k1, k2⟩ := s_meets (fu := fu) (by omega) (sP.sk (SK.t (v := 0))) (sE.sk (SK.t (v := 0))) (sW.sk (SK.t (v := 0))) pP pE pW hw
    rw [e, bE_r, bi_some, if_pos w2, m1, bi_some, if_pos m2.b, er, if_neg (by decide), s_hold0, bW_some, if_neg (by decide), k1, bi_some, TF_un k2 m2]
    rcases m2.b with rfl | rfl
    · rw [if_pos rfl]
      exact ⟨_, _, _, rfl, rfl, rfl, rfl, hR0.sk SK.t, K9⟩
    · rw [if_neg (by decide)]
      exact ⟨_, _, _, rfl, rfl, rfl, rfl, hR0.sk SK.t, K9⟩
  · have er : r = 0 := TF_un e2 (Or.inr ⟨rfl, hn⟩)
    rw [e, bE_l, er, if_pos rfl, s_holdN (by decide), bW_some, if_pos rfl]
    exact ⟨_, _, _, rfl, rfl, sem_ex (i := 0) (by decide) (by decide) rfl (hR0.sk SK.t)⟩
theorem t_copyOf {fu : Nat} (hfu : 5000 ≤ fu) : sem_copyOf Rel fu := by
  intro x X S q0 hR hF
  have hR0 := hR
  obtain ⟨A, ro, pa, ea, wa, K, T, V, N, n, np, G, ne, ew, eo, es, nw, wp, we, wc, wo, W, H, rfl, ⟨B, D, P, E, Wk, Wl, Hg⟩, ⟨sD, sP, sE, sW, sL, s18⟩, ⟨pD, pP, pE, pW, pL⟩⟩ := hR
  have b1 := pW.1
  have hx := B.k 0 11 0 (by decide)
  obtain ⟨r, e1, e2⟩ := s_work (v := q0) sW.1 b1
  unfold fX11_copyOf fX12_copyOf fX12_copyOf_L14
  rw [if_pos hx, e1, bi_some]
  rcases x_work B Wk b1 q0 with ⟨w, hw, rfl, e⟩ | ⟨hn, e⟩
  · have er : r = 1 := TF_un e2 (Or.inl ⟨rfl, w, hw, rfl⟩)
    obtain ⟨w1, w2, w3, w4, w5, w6, w7⟩ := Wk.2.2 w hw
    obtain ⟨S1, k1, k2⟩ := s_copied (fu := fu) (by omega) (sP.sk (SK.t (v := 0))) (sW.sk (SK.t (v := 0))) pP pE pW hw
    have hs : sc S1 0 = 0 := by rw [k2.1, sc_uc, if_pos rfl]
    rw [e, bE_r, bi_some, if_pos w2, w6, er, if_neg (by decide), s_hold0, bW_some, if_neg (by decide), k1, bW_some]
    exact ⟨_, _, _, rfl, rfl, hs, rfl, hR0.sk (SK.t.trans k2.sk), K9⟩
  · have er : r = 0 := TF_un e2 (Or.inr ⟨rfl, hn⟩)
    rw [e, bE_l, er, if_pos rfl, s_holdN (by decide), bW_some, if_pos rfl]
    exact ⟨_, _, _, rfl, rfl, sem_ex (i := 0) (by decide) (by decide) rfl (hR0.sk SK.t)⟩
theorem t_hangs {fu : Nat} (hfu : 5000 ≤ fu) : sem_hangs Rel fu := by
  intro x X S q0 hR hF
  have hR0 := hR
  obtain ⟨A, ro, pa, ea, wa, K, T, V, N, n, np, G, ne, ew, eo, es, nw, wp, we, wc, wo, W, H, rfl, ⟨B, D, P, E, Wk, Wl, Hg⟩, ⟨sD, sP, sE, sW, sL, s18⟩, ⟨pD, pP, pE, pW, pL⟩⟩ := hR
  have b1 := pW.1
  have hx := B.k 0 11 0 (by decide)
  obtain ⟨r, e1, e2⟩ := s_work (v := q0) sW.1 b1
  unfold fX11_hangs fX12_hangs fX12_hangs_L14
  rw [if_pos hx, e1, bi_some]
  rcases x_work B Wk b1 q0 with ⟨w, hw, rfl, e⟩ | ⟨hn, e⟩
  · have er : r = 1 := TF_un e2 (Or.inl ⟨rfl, w, hw, rfl⟩)
    obtain ⟨w1, w2, w3, w4, w5, w6, w7⟩ := Wk.2.2 w hw
    obtain ⟨S1, k1, k2, k3⟩ := s_hangs (fu := fu) hfu (sP.sk (SK.t (v := 0))) (sE.sk (SK.t (v := 0))) (sW.sk (SK.t (v := 0))) (sL.sk (SK.t (v := 0))) pP pE pW pL
    have hs : sc S1 0 = 0 := by rw [k2.1, sc_uc, if_pos rfl]
    rw [e, bE_r, bi_some, if_pos w2, er, if_neg n10, s_hold0, bW_some, if_neg n10, k1, bi_some, if_pos (inS_ok (by decide) rfl (by show w < 24; omega) (by decide)), nI_clamp (by omega), k3 w hw]
    have hg := Hg w hw
    cases eo : layG W H G ew eo es wp we wc wo nw w with
    | none =>
      rw [eo] at hg
      rw [if_pos (show mI X 1004 (wa w) = 0 from hg)]
      exact ⟨_, _, _, rfl, rfl, hs, rfl, hR0.sk (SK.t.trans k2.sk), K9⟩
    | some k =>
      rw [eo] at hg
      obtain ⟨g1, g2, g3⟩ := hg
      rw [if_neg (by rw [g1]; decide), g2, g3, show (100 : Int32) = nI 100 from rfl, pk_mul, nI_add]
      exact ⟨_, _, _, rfl, rfl, hs, rfl, hR0.sk (SK.t.trans k2.sk), K9⟩
  · have er : r = 0 := TF_un e2 (Or.inr ⟨rfl, hn⟩)
    rw [e, bE_l, er, if_pos rfl, s_holdN (by decide), bW_some, if_pos rfl]
    exact ⟨_, _, _, rfl, rfl, sem_ex (i := 0) (by decide) (by decide) rfl (hR0.sk SK.t)⟩
