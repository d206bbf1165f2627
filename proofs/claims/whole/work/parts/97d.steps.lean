/-! strokesBySteps -/
theorem nro {ro : Nat → Nat} {a b i j : Nat} (h1 : ro a = i) (h2 : ro b = j) (h : i ≠ j) : a ≠ b := fun z => h (by rw [← h1, z, h2])
theorem RF.sk {p k : Nat} {R U : Nat → Int32} {S S' : SM} (h : RF p S S') (hD : PDr p k R U S) (h13 : ∀ j, j < 16 → ar S' 13 (16 * p + j) = R j) (h14 : ∀ j, j < 16 → ar S' 14 (16 * p + j) = U j) (h18 : ar S' 18 0 = ar S 18 0) : SK S S' := by
  refine ⟨fun i hi => h.1 i (by omega), fun r hr => ?_, h18⟩
  by_cases e : r = 13
  · subst e
    funext a
    by_cases ea : 16 * p ≤ a ∧ a < 16 * p + 16
    · obtain ⟨j, rfl⟩ : ∃ j, a = 16 * p + j := ⟨a - 16 * p, by omega⟩
      rw [h13 j (by omega), hD.2.1 j (by omega)]
    · exact (h.2.2.1 a (by omega)).1
  · by_cases e2 : r = 14
    · subst e2
      funext a
      by_cases ea : 16 * p ≤ a ∧ a < 16 * p + 16
      · obtain ⟨j, rfl⟩ : ∃ j, a = 16 * p + j := ⟨a - 16 * p, by omega⟩
        rw [h14 j (by omega), hD.2.2 j (by omega)]
      · exact (h.2.2.1 a (by omega)).2
    · exact h.2.1 r (by omega)
theorem t_strokesBySteps {fu : Nat} (hfu : 100000000 ≤ fu) : sem_strokesBySteps Rel fu := by
  intro x X S q0 q1 hR hF
  have hR0 := hR
  obtain ⟨A, ro, pa, ea, wa, K, T, V, N, n, np, G, ne, ew, eo, es, nw, wp, we, wc, wo, W, H, rfl, ⟨B, D, P, E, Wk, Wl, Hg⟩, ⟨sD, sP, sE, sW, sL, s18⟩, ⟨pD, pP, pE, pW, pL⟩⟩ := hR
  have b1 := pP.1
  have hx := B.k 0 11 0 (by decide)
  obtain ⟨r, e1, e2⟩ := s_prog (v := q0) sP.1 b1
  have badr : ∀ v : Int32, ¬ v = 0 → fX12_strokesBySteps_L29 fu S q0 q1 v = some (0, uc S 0 v) := by
    intro v hv
    unfold fX12_strokesBySteps_L29
    rw [s_holdN hv, bW_some, if_pos rfl]
  unfold fX11_strokesBySteps fX12_strokesBySteps
  rw [if_pos hx, e1, bi_some, q_isIn, bi_some, badr 1 (by decide), badr 2 (by decide)]
  rcases x_prog B P b1 q0 with ⟨p, hp, rfl, e⟩ | ⟨hn, e⟩
  · have er : r = 1 := TF_un e2 (Or.inl ⟨rfl, p, hp, rfl⟩)
    rw [e, bE_r, er, if_neg n10]
    by_cases hok : 0 ≤ q1 ∧ q1 ≤ 600
    · obtain ⟨ms, hms, rfl⟩ := nI_of2 (M := 600) (n := 600) rfl (fun q => Int32.lt_irrefl (Int32.lt_of_lt_of_le q hok.1)) hok.2
      have gb := pP.2 p hp
      obtain ⟨os, pa9, wa9, fo, dr, ra, ua, oa, h1, h2, h3, h4, h5, ⟨r1, r2, r3, r4, r5, r6, r7, r8⟩, h7, hpw⟩ := (P.2 p hp).2
      have k3 := B.k 3 2 0 (by decide)
      have k15 := B.k 15 20 16 (by decide)
      have k16 := B.k 16 20 16 (by decide)
      have o3 := B.o 3 2 0 (by decide)
      have o15 := B.o 15 20 16 (by decide)
      have o16 := B.o 16 20 16 (by decide)
      have o2 := B.o 2 7 0 (by decide)
      have o12 := B.o 12 20 4 (by decide)
      have o13 := B.o 13 20 270 (by decide)
      have o14 := B.o 14 20 8 (by decide)
      -- the sketch is emptied
      obtain ⟨X1, c1, c2, c3, c4⟩ := x_clean (fu := fu) (d := A 3) (r := A 15) (u := A 16) (nro o15 o16 (by decide)) 16 0 (fu - 17) (wI X 202 (A 3) 0) rfl k3 (B.r 200 3 15 (by decide)) (B.r 201 3 16 (by decide)) k15 k16 (fun j hj => absurd hj (Nat.not_lt_zero j))
      rw [show fu - 17 + 16 + 1 = fu by omega] at c1
      have c1 : fX2_makeEmpty fu X (A 3) = some X1 := by
        unfold fX2_makeEmpty
        rw [if_pos k3]
        exact c1
      have fm1 : Fm (fun b => b = A 3 ∨ b = A 15 ∨ b = A 16) X X1 := Fm.trans (P := fun b => b = A 3 ∨ b = A 15 ∨ b = A 16) (Fm.wI (Or.inl (Or.inl rfl))) (c2.fm.mono (fun b _ z => Or.inr z))
      have g1 : FreshM X1 := (hF.cg (X1 := wI X 202 (A 3) 0) rfl rfl).cg c2.1 c2.2.2.2.2.1
      have rk1 : RfK X X1 := RfK.of c2.2.1
      have m202 : mI X1 202 (A 3) = 0 := by rw [c3, mI_wI, if_pos ⟨rfl, rfl⟩]
      have hz1 : mZ X1 = mZ X := c2.2.2.2.2.1
      have hk1 : mK X1 = mK X := c2.1
      have hr1 : mR X1 = mR X := c2.2.1
      have hP1 : ∀ (L : List Nat), 3 ∉ L → 15 ∉ L → 16 ∉ L → ∀ a, ro a ∈ L → ¬ (a = A 3 ∨ a = A 15 ∨ a = A 16) := by
        rintro L y1 y2 y3 a ha (z | z | z)
        · rw [z, o3] at ha; exact y1 ha
        · rw [z, o15] at ha; exact y2 ha
        · rw [z, o16] at ha; exact y3 ha
      have id9 : ∀ a, a < mZ X → ro a = ro a := fun _ _ => rfl
      have B1 : BaseX A ro X1 := B.fm hF fm1 rk1 id9 (B.2.2.fm hF (B.k 4 0 0 (by decide)) fm1 id9 (hP1 [4] (by decide) (by decide) (by decide) _ (by rw [B.o 4 0 0 (by decide)]; decide)))
      have h50 : ∀ {a : Nat}, ro a = 50 → ¬ (a = A 3 ∨ a = A 15 ∨ a = A 16) := fun ha => hP1 [50] (by decide) (by decide) (by decide) _ (by rw [ha]; decide)
      have h1' := h1.fm hF fm1 (h50 r1) (h50 r2) (h50 r3) (h50 r4) (h50 r5) (h50 r6) (fun i hi => h50 (h7 i hi))
      -- the run
      have hd : RGd (gA A (A 3) (A 15) (A 16) (pa p) os pa9 wa9 oa) := by
        refine RGd_of (fun a => if a = pa9 then 6 else if a = wa9 then 7 else if ro a = 12 then 1 else if ro a = 13 then 2 else if ro a = 14 then 3 else if ro a = 15 then 4 else 5) ?_ ?_ ?_ ?_ ?_ ?_ ?_
        · show (if A 12 = pa9 then 6 else if A 12 = wa9 then 7 else if ro (A 12) = 12 then 1 else if ro (A 12) = 13 then 2 else if ro (A 12) = 14 then 3 else if ro (A 12) = 15 then 4 else 5) = 1
          rw [if_neg (nro o12 r3 (by decide)), if_neg (nro o12 r4 (by decide)), if_pos o12]
        · show (if A 13 = pa9 then 6 else if A 13 = wa9 then 7 else if ro (A 13) = 12 then 1 else if ro (A 13) = 13 then 2 else if ro (A 13) = 14 then 3 else if ro (A 13) = 15 then 4 else 5) = 2
          rw [if_neg (nro o13 r3 (by decide)), if_neg (nro o13 r4 (by decide)), if_neg (by rw [o13]; decide), if_pos o13]
        · show (if A 14 = pa9 then 6 else if A 14 = wa9 then 7 else if ro (A 14) = 12 then 1 else if ro (A 14) = 13 then 2 else if ro (A 14) = 14 then 3 else if ro (A 14) = 15 then 4 else 5) = 3
          rw [if_neg (nro o14 r3 (by decide)), if_neg (nro o14 r4 (by decide)), if_neg (by rw [o14]; decide), if_neg (by rw [o14]; decide), if_pos o14]
        · show (if A 15 = pa9 then 6 else if A 15 = wa9 then 7 else if ro (A 15) = 12 then 1 else if ro (A 15) = 13 then 2 else if ro (A 15) = 14 then 3 else if ro (A 15) = 15 then 4 else 5) = 4
          rw [if_neg (nro o15 r3 (by decide)), if_neg (nro o15 r4 (by decide)), if_neg (by rw [o15]; decide), if_neg (by rw [o15]; decide), if_neg (by rw [o15]; decide), if_pos o15]
        · show (if A 16 = pa9 then 6 else if A 16 = wa9 then 7 else if ro (A 16) = 12 then 1 else if ro (A 16) = 13 then 2 else if ro (A 16) = 14 then 3 else if ro (A 16) = 15 then 4 else 5) = 5
          rw [if_neg (nro o16 r3 (by decide)), if_neg (nro o16 r4 (by decide)), if_neg (by rw [o16]; decide), if_neg (by rw [o16]; decide), if_neg (by rw [o16]; decide), if_neg (by rw [o16]; decide)]
        · exact if_pos rfl
        · show (if wa9 = pa9 then 6 else if wa9 = wa9 then 7 else _) = 7
          rw [if_neg hpw.symm, if_pos rfl]
      have hG : RG (gA A (A 3) (A 15) (A 16) (pa p) os pa9 wa9 oa) (pgK (G p)) (pgT (G p)) (pgV (G p)) (pgN (G p)) (pgn (G p)) (clG (pgK (G p)) (pgn (G p))) (wsF (pgK (G p)) (pgT (G p)) (pgn (G p))) (wR X1 704 (A 2) (some (A 3))) := RG_of B1 h1'.1 h1'.2.1 h1'.2.2.1 (B1.k 3 2 0 (by decide)) (B1.r 200 3 15 (by decide)) (B1.r 201 3 16 (by decide)) (B1.k 15 20 16 (by decide)) (B1.k 16 20 16 (by decide)) h1'.2.2.2.2.2.2.2.2.2.2.2.1 h1'.2.2.2.2.2.2.2.2.2.2.2.2.1 hd (nro o3 o2 (by decide))
      obtain ⟨X', z1, z2, z3⟩ := c_perform (fu := fu) (ms := ms) (g := gA A (A 3) (A 15) (A 16) (pa p) os pa9 wa9 oa) gb.1 (clG_ok gb.1) hms (by omega) hG m202 (fun j hj => (c4 j hj).1) (fun j hj => (c4 j hj).2) (nro o2 o3 (by decide))
      have z1 : fX7_perform fu X1 (A 2) (some (pa p)) (some (A 3)) (nI ms) = some X' := z1
      obtain ⟨fm2, rk2⟩ := FR.fm z2
      have hP2 : ∀ (L : List Nat), (∀ i ∈ [2, 3, 12, 13, 14, 15, 16], i ∉ L) → ∀ a, ro a ∈ L → ¬ (a = A 2 ∨ a = A 3 ∨ a = A 12 ∨ a = A 13 ∨ a = A 14 ∨ a = A 15 ∨ a = A 16) := by
        rintro L y a ha (z | z | z | z | z | z | z)
        · rw [z, o2] at ha; exact y 2 (by decide) ha
        · rw [z, o3] at ha; exact y 3 (by decide) ha
        · rw [z, o12] at ha; exact y 12 (by decide) ha
        · rw [z, o13] at ha; exact y 13 (by decide) ha
        · rw [z, o14] at ha; exact y 14 (by decide) ha
        · rw [z, o15] at ha; exact y 15 (by decide) ha
        · rw [z, o16] at ha; exact y 16 (by decide) ha
      have id1 : ∀ a, a < mZ X1 → ro a = ro a := fun _ _ => rfl
      have B2 : BaseX A ro X' := B1.fm g1 fm2 rk2 id1 (B1.2.2.fm g1 (B1.k 4 0 0 (by decide)) fm2 id1 (hP2 [4] (by decide) _ (by rw [B.o 4 0 0 (by decide)]; decide)))
      have Wk1 := Wk.fm B hF fm1 id9 (hP1 _ (by decide) (by decide) (by decide))
      have RX : RelX A ro pa ea wa K T V N n np G ne ew eo es nw wp we wc wo W H X' := ⟨B2, (D.fm B hF fm1 id9 (hP1 _ (by decide) (by decide) (by decide))).fm B1 g1 fm2 id1 (hP2 _ (by decide)), (P.fm B hF fm1 id9 (hP1 _ (by decide) (by decide) (by decide))).fm B1 g1 fm2 id1 (hP2 _ (by decide)), (E.fm B hF fm1 id9 (hP1 _ (by decide) (by decide) (by decide))).fm B1 g1 fm2 id1 (hP2 _ (by decide)), Wk1.fm B1 g1 fm2 id1 (hP2 _ (by decide)), (Wl.fm B hF fm1 (hP1 _ (by decide) (by decide) (by decide))).fm B1 g1 fm2 (hP2 _ (by decide)), (Hg.fm Wk hF fm1 (hP1 _ (by decide) (by decide) (by decide))).fm Wk1 g1 fm2 (hP2 _ (by decide))⟩
      -- the reference
      have sP0 := sP.sk (SK.t (v := 0))
      obtain ⟨S1, y1, y2, y3, y4⟩ := q_runs (fu := fu) (p := p) (by omega) gb.1 (sP0.2 p hp).1 hfu (show ar (uc S 0 0) 18 0 = 0 from s18)
      obtain ⟨w1, w2, w3, w4, w5⟩ := y3.all
      have sk1 : SK (uc S 0 0) S1 := y2.sk (sP0.2 p hp).2.2.2.2 w3 w4 (by rw [y4]; exact s18.symm)
      have sk2 : SK S S1 := SK.t.trans sk1
      have hs : sc S1 0 = 0 := by rw [y2.1 0 (by omega), sc_uc, if_pos rfl]
      have hcc := CI_c (finB_CI gb.1)
      -- the answers
      have i18 : ∀ j, j ≤ 600 → inS 0 18 (nI j) = true := fun j hj => inS_ok (by decide) rfl (by show j < 601; omega) (by decide)
      have hv : mI X' 202 (A 3) = cS (finB (pgK (G p)) (pgT (G p)) (pgV (G p)) (pgN (G p)) (pgn (G p))) (if cC (finB (pgK (G p)) (pgT (G p)) (pgV (G p)) (pgN (G p)) (pgn (G p))) ≤ ms then cC (finB (pgK (G p)) (pgT (G p)) (pgV (G p)) (pgN (G p)) (pgn (G p))) else ms) := by
        rcases z3 with ⟨z3, z4⟩ | ⟨z3, z4, z5⟩
        · have q := z3.all.2.2.2.2.1
          have q : mI X' 202 (A 3) = cS (finB (pgK (G p)) (pgT (G p)) (pgV (G p)) (pgN (G p)) (pgn (G p))) (cC (finB (pgK (G p)) (pgT (G p)) (pgV (G p)) (pgN (G p)) (pgn (G p)))) := q
          have z4 : cC (finB (pgK (G p)) (pgT (G p)) (pgV (G p)) (pgN (G p)) (pgn (G p))) ≤ ms := z4
          rw [if_pos z4]
          exact q
        · have q : mI X' 202 (A 3) = cS (finB (pgK (G p)) (pgT (G p)) (pgV (G p)) (pgN (G p)) (pgn (G p))) ms := z4
          have z5 : ms ≤ cC (finB (pgK (G p)) (pgT (G p)) (pgV (G p)) (pgN (G p)) (pgn (G p))) := z5
          by_cases e9 : cC (finB (pgK (G p)) (pgT (G p)) (pgV (G p)) (pgN (G p)) (pgn (G p))) ≤ ms
          · rw [if_pos e9, q]
            congr 1
            omega
          · rw [if_neg e9]
            exact q
      have ref : fX12_strokesBySteps_L29 fu S (nI p) (nI ms) 0 = some (mI X' 202 (A 3), S1) := by
        unfold fX12_strokesBySteps_L29
        rw [s_hold0, bW_some, if_neg n10, y1, bi_some, w2, hv]
        by_cases e9 : cC (finB (pgK (G p)) (pgT (G p)) (pgV (G p)) (pgN (G p)) (pgn (G p))) ≤ ms
        · rw [if_pos ((nI_leI (by omega) (by omega)).mpr e9), if_pos (i18 _ hcc), nI_clamp (by omega), w5 _ (Nat.le_refl _), if_pos e9]
        · rw [if_neg (fun z => e9 ((nI_leI (by omega) (by omega)).mp z)), if_pos (i18 _ hms), nI_clamp (by omega), w5 ms (by omega), if_neg e9]
      rw [if_neg (nI_pos (by omega)), if_pos hok.2, B.r 1102 0 3 (by decide), bi_some, if_pos k3, c1, bi_some, if_pos (B1.k 0 11 0 (by decide)), B1.r 1101 0 2 (by decide), bi_some, if_pos (B1.k 2 7 0 (by decide)), B1.r 1102 0 3 (by decide), z1, bi_some, if_pos (B2.k 0 11 0 (by decide)), B2.r 1102 0 3 (by decide), bi_some, if_pos (B2.k 3 2 0 (by decide)), if_pos hok, if_neg n10, ref]
      exact ⟨_, _, _, rfl, rfl, hs, rfl, ⟨A, ro, pa, ea, wa, K, T, V, N, n, np, G, ne, ew, eo, es, nw, wp, we, wc, wo, W, H, rfl, RX, RelS.sk ⟨sD, sP, sE, sW, sL, s18⟩ sk2, ⟨pD, pP, pE, pW, pL⟩⟩, by have := fm2.1; omega, fun a ha => by rw [fm2.2.1 a (by omega), hk1]⟩
    · rw [if_neg hok, if_pos rfl]
      by_cases a : q1 < 0
      · rw [if_pos a]
        exact ⟨_, _, _, rfl, rfl, sem_ex (i := 1) (by decide) (by decide) rfl (hR0.sk SK.t)⟩
      · rw [if_neg a, if_neg (fun z => hok ⟨Int32.not_lt.mp a, z⟩)]
        exact ⟨_, _, _, rfl, rfl, sem_ex (i := 1) (by decide) (by decide) rfl (hR0.sk SK.t)⟩
  · have er : r = 0 := TF_un e2 (Or.inr ⟨rfl, hn⟩)
    rw [e, bE_l, er, if_pos rfl]
    exact ⟨_, _, _, rfl, rfl, sem_ex (i := 0) (by decide) (by decide) rfl (hR0.sk SK.t)⟩
