/-! runs by steps; a program is written -/
theorem x_clean {fu d r u : Nat} (hru : r ≠ u) : ∀ (t i m : Nat) (X : Mem), i + t = 16 → mK X d = some (2, 0) → mR X 200 d = some r → mR X 201 d = some u → mK X r = some (20, 16) → mK X u = some (20, 16) → (∀ j, j < i → aI X r j = 0 ∧ aI X u j = 0) → ∃ X', fX2_makeEmpty_L7 fu (m + t + 1) X d (nI i) = some X' ∧ NFr (fun b => b = r ∨ b = u) X X' ∧ (∀ k b, mI X' k b = mI X k b) ∧ ∀ j, j < 16 → aI X' r j = 0 ∧ aI X' u j = 0 := by
  intro t
  induction t with
  | zero =>
    intro i m X hi h1 h2 h3 h4 h5 h6
    have hi : i = 16 := hi
    subst hi
    refine ⟨X, ?_, NFr.rfl9, fun _ _ => rfl, h6⟩
    show fX2_makeEmpty_L7b fu (fX2_makeEmpty_L7 fu m) X d (nI 16) = _
    unfold fX2_makeEmpty_L7b
    rw [if_pos (by decide)]
  | succ t ih =>
    intro i m X hi h1 h2 h3 h4 h5 h6
    show ∃ X', fX2_makeEmpty_L7b fu (fX2_makeEmpty_L7 fu (m + t + 1)) X d (nI i) = some X' ∧ _
    unfold fX2_makeEmpty_L7b
    have ir : inb X 0 r (nI i) = true := inb_of (t := 0) h4 (by omega) (by omega)
    have iu : inb (sI X r i 0) 0 u (nI i) = true := inb_of (X := sI X r i 0) (t := 0) h5 (by omega) (by omega)
    have r2 : mR (sI X r i 0) 201 d = some u := h3
    rw [if_neg (show ¬ (16 : Int32) ≤ nI i from fun q => by have := (nI_leI (by omega : 16 < 2 ^ 31) (by omega)).mp q; omega), if_pos h1, h2, bi_some, alen_of h4 (by decide), bi_some, if_neg (fun q => by have := (nI_leI (by omega) (by omega)).mp q; omega), h3, bi_some, alen_of h5 (by decide), bi_some, if_neg (fun q => by have := (nI_leI (by omega) (by omega)).mp q; omega), bi_some, if_pos ir, nI_clamp (by omega), r2, bi_some, if_pos iu, nI_1]
    have fr : NFr (fun b => b = r ∨ b = u) X (sI (sI X r i 0) u i 0) := NFr.trans (P := fun b => b = r ∨ b = u) (NFr.sI (Or.inl rfl)) (NFr.sI (Or.inr rfl))
    obtain ⟨X', z1, z2, z3, z4⟩ := ih (i + 1) m (sI (sI X r i 0) u i 0) (by omega) h1 h2 h3 h4 h5 (fun j hj => by
      rw [aI_sI, aI_sI, aI_sI, aI_sI]
      by_cases e : j = i
      · rw [if_neg (fun z => hru z.1), if_pos ⟨rfl, e⟩, if_pos ⟨rfl, e⟩]
        exact ⟨rfl, rfl⟩
      · rw [if_neg (fun z => e z.2), if_neg (fun z => e z.2), if_neg (fun z => e z.2), if_neg (fun z => e z.2)]
        exact h6 j (by omega))
    exact ⟨X', z1, fr.trans z2, fun k b => (z3 k b).trans (by rw [mI_sI, mI_sI]), z4⟩
/-- the addresses of a run -/
def gA (A : Nat → Nat) (dr ra ua pr os pa wa : Nat) (oa : Nat → Nat) : Nat → Nat := fun i => if 20 ≤ i then oa (i - 20) else if i = 0 then A 2 else if i = 1 then A 11 else if i = 2 then A 12 else if i = 3 then A 13 else if i = 4 then A 14 else if i = 5 then dr else if i = 6 then ra else if i = 7 then ua else if i = 8 then pr else if i = 9 then os else if i = 10 then pa else wa
theorem gA_o {A : Nat → Nat} {dr ra ua pr os pa wa : Nat} {oa : Nat → Nat} {i : Nat} : gA A dr ra ua pr os pa wa oa (20 + i) = oa i := by
  unfold gA
  rw [if_pos (by omega), show 20 + i - 20 = i by omega]
theorem RG_of {A ro : Nat → Nat} {dr ra ua pr os pa wa n : Nat} {oa : Nat → Nat} {K T V N : Nat → Int32} {X : Mem} (B : BaseX A ro X) (h : PG pr os pa oa K T V N n X) (h1 : mR X 503 pr = some wa) (h2 : mK X wa = some (20, 4)) (h3 : mK X dr = some (2, 0)) (h4 : mR X 200 dr = some ra) (h5 : mR X 201 dr = some ua) (h6 : mK X ra = some (20, 16)) (h7 : mK X ua = some (20, 16)) (h8 : ∀ o, o < n → (K o = 5 ∨ K o = 6) → aI X pa o = nI (clG K n o) ∧ aI X pa (clG K n o) = nI o) (h9 : ∀ t, t < 4 → aI X wa t = oW (wsF K T n (nI t))) (hd : RGd (gA A dr ra ua pr os pa wa oa)) (hdr : dr ≠ A 2) : RG (gA A dr ra ua pr os pa wa oa) K T V N n (clG K n) (wsF K T n) (wR X 704 (A 2) (some dr)) := by
  have rr : ∀ k a, k ≠ 704 → mR (wR X 704 (A 2) (some dr)) k a = mR X k a := fun k a hk => by rw [mR_wR, if_neg (fun z => hk z.1)]
  refine ⟨⟨B.k 2 7 0 (by decide), B.k 11 8 0 (by decide), B.k 12 20 4 (by decide), B.k 13 20 270 (by decide), B.k 14 20 8 (by decide), h3, h6, h7, h.1, h.2.2.2.1, h.2.2.2.2.1, h2⟩, ⟨?_, ?_, ?_, ?_, ?_, ?_, ?_, ?_, ?_, ?_⟩, fun i hi => ?_, ⟨h8, h9⟩, hd⟩
  · show mR (wR X 704 (A 2) (some dr)) 700 (A 2) = some (A 11)
    rw [rr _ _ (by omega)]; exact B.r 700 2 11 (by decide)
  · show mR (wR X 704 (A 2) (some dr)) 701 (A 2) = some (A 12)
    rw [rr _ _ (by omega)]; exact B.r 701 2 12 (by decide)
  · show mR (wR X 704 (A 2) (some dr)) 702 (A 2) = some (A 13)
    rw [rr _ _ (by omega)]; exact B.r 702 2 13 (by decide)
  · show mR (wR X 704 (A 2) (some dr)) 703 (A 2) = some (A 14)
    rw [rr _ _ (by omega)]; exact B.r 703 2 14 (by decide)
  · show mR (wR X 704 (A 2) (some dr)) 704 (A 2) = some dr
    rw [mR_wR, if_pos ⟨rfl, rfl⟩]
  · show mR (wR X 704 (A 2) (some dr)) 200 dr = some ra
    rw [rr _ _ (by omega)]; exact h4
  · show mR (wR X 704 (A 2) (some dr)) 201 dr = some ua
    rw [rr _ _ (by omega)]; exact h5
  · show mR (wR X 704 (A 2) (some dr)) 501 pr = some os
    rw [rr _ _ (by omega)]; exact h.2.1
  · show mR (wR X 704 (A 2) (some dr)) 502 pr = some pa
    rw [rr _ _ (by omega)]; exact h.2.2.1
  · show mR (wR X 704 (A 2) (some dr)) 503 pr = some wa
    rw [rr _ _ (by omega)]; exact h1
  · rw [gA_o]
    exact h.2.2.2.2.2 i hi
/-- what a run leaves of the class's memory -/
theorem FR.fm {A : Nat → Nat} {dr ra ua pr os pa wa : Nat} {oa : Nat → Nat} {X X1 : Mem} (h : FR (gA A dr ra ua pr os pa wa oa) (wR X 704 (A 2) (some dr)) X1) : Fm (fun b => b = A 2 ∨ b = dr ∨ b = A 12 ∨ b = A 13 ∨ b = A 14 ∨ b = ra ∨ b = ua) X X1 ∧ RfK X X1 := by
  obtain ⟨f1, f2, f3, f4, f5, f6, f7, f8⟩ := h
  refine ⟨⟨by rw [f5]; exact Nat.le_refl _, fun a _ => by rw [f1]; rfl, fun a _ hp => ⟨fun k hk => ?_, fun k => ?_, ?_, by rw [f3]; rfl, by rw [f4]; rfl⟩⟩, fun a _ k _ h7 => by rw [f2, mR_wR, if_neg (fun z => h7 z.1)]⟩
  · by_cases e : k ≤ 206
    · exact f7 k a (fun z => hp (Or.inr (Or.inl z))) e
    · exact f6 k a (by omega) (by omega) (by omega)
  · rw [f2, mR_wR, if_neg (fun z => hp (Or.inl z.2))]
  · exact f8 a (fun z => hp (Or.inr (Or.inr (Or.inl z)))) (fun z => hp (Or.inr (Or.inr (Or.inr (Or.inl z))))) (fun z => hp (Or.inr (Or.inr (Or.inr (Or.inr (Or.inl z)))))) (fun z => hp (Or.inr (Or.inr (Or.inr (Or.inr (Or.inr (Or.inl z))))))) (fun z => hp (Or.inr (Or.inr (Or.inr (Or.inr (Or.inr (Or.inr z)))))))
theorem RGd_of {A : Nat → Nat} {dr ra ua pr os pa wa : Nat} {oa : Nat → Nat} (f : Nat → Nat) (h2 : f (A 12) = 1) (h3 : f (A 13) = 2) (h4 : f (A 14) = 3) (h5 : f ra = 4) (h6 : f ua = 5) (h7 : f pa = 6) (h8 : f wa = 7) : RGd (gA A dr ra ua pr os pa wa oa) := by
  intro i hi j hj e
  have k2 : gA A dr ra ua pr os pa wa oa 2 = A 12 := rfl
  have k3 : gA A dr ra ua pr os pa wa oa 3 = A 13 := rfl
  have k4 : gA A dr ra ua pr os pa wa oa 4 = A 14 := rfl
  have k6 : gA A dr ra ua pr os pa wa oa 6 = ra := rfl
  have k7 : gA A dr ra ua pr os pa wa oa 7 = ua := rfl
  have k10 : gA A dr ra ua pr os pa wa oa 10 = pa := rfl
  have k11 : gA A dr ra ua pr os pa wa oa 11 = wa := rfl
  have e2 := congrArg f e
  simp only [List.mem_cons, List.not_mem_nil, or_false] at hi hj
  rcases hi with rfl | rfl | rfl | rfl | rfl | rfl | rfl <;> rcases hj with rfl | rfl | rfl | rfl | rfl | rfl | rfl <;> simp only [k2, k3, k4, k6, k7, k10, k11, h2, h3, h4, h5, h6, h7, h8] at e2 <;> omega
theorem CQ.all {g : Nat → Nat} {ms : Nat} {X : Mem} {s : Cor} (h : CQ g ms X s) : mI X 708 (g 0) = cF s ∧ mI X 707 (g 0) = nI (cC s) ∧ (∀ j, j < 16 → aI X (g 6) j = cR s j) ∧ (∀ j, j < 16 → aI X (g 7) j = cU s j) ∧ mI X 202 (g 5) = cS s (cC s) ∧ Box (cC s) (cR s) (cU s) (cS s (cC s)) (mI X 203 (g 5)) (mI X 204 (g 5)) (mI X 205 (g 5)) (mI X 206 (g 5)) := by
  obtain ⟨x, y, h9, d, f, c, nm, R, U, sa⟩ := s
  obtain ⟨q1, q2, q3, q4, q5, q6, q7, q8, q9, q10, q11, q12⟩ := h
  exact ⟨q5, q6, q9, q10, q11, q12⟩
theorem nro {ro : Nat → Nat} {a b i j : Nat} (h1 : ro a = i) (h2 : ro b = j) (h : i ≠ j) : a ≠ b := fun z => h (by rw [← h1, z, h2])
section MS
variable {fu x : Nat} {K T V N : Nat → Int32} {n np : Nat} {G : Nat → Pg} {ne : Nat} {ew : Nat → Nat} {eo es : Nat → Int32} {nw : Nat} {wp we : Nat → Nat} {wc : Nat → Int32} {wo : Nat → Option Nat} {W H : Nat} {X : Mem}
theorem m_bySteps {p ms : Nat} (hfu : 100000000 ≤ fu) (h : StX x K T V N n np G ne ew eo es nw wp we wc wo W H X) (hP : RelP K T V N n np G ne ew nw wp we wc wo W H) (hp : p < np) (hms : ms ≤ 600) : ∃ X1, fX11_strokesBySteps fu X x (nI p) (nI ms) = some (.inr (cS (pgF (G p)) (if cC (pgF (G p)) ≤ ms then cC (pgF (G p)) else ms), X1)) ∧ StX x K T V N n np G ne ew eo es nw wp we wc wo W H X1 ∧ Keeps9 X X1 := by
  obtain ⟨hF, A, ro, pa, ea, wa, rfl, B, D, P, E, Wk, Wl, Hg⟩ := h
  obtain ⟨pD, pP, pE, pW, pL⟩ := hP
  have b1 := pP.1
  have hne := pE.1
  have hnw := pW.1
  have hx := B.k 0 11 0 (by decide)
  have gb := pP.2 p hp
  obtain ⟨os, pa9, wa9, fo, dr, ra, ua, oa, h1, h2, h3, h4, h5, ⟨r1, r2, r3, r4, r5, r6, r7, r8⟩, h7, hpw⟩ := (P.2 p hp).2
  have k3 := B.k 3 2 0 (by decide)
  have k15 := B.k 15 20 16 (by decide)
  have k16 := B.k 16 20 16 (by decide)
  have o3 := B.o 3 2 0 (by decide)
  have o15 := B.o 15 20 16 (by decide)
  have o16 := B.o 16 20 16 (by decide)
  have o2 := B.o 2 7 0 (by decide)
  have o12 := B.o 12 20 4 (by decide)
  have o13 := B.o 13 20 270 (by decide)
  have o14 := B.o 14 20 8 (by decide)
  -- the sketch is emptied
  obtain ⟨X1, c1, c2, c3, c4⟩ := x_clean (fu := fu) (d := A 3) (r := A 15) (u := A 16) (nro o15 o16 (by decide)) 16 0 (fu - 17) (wI X 202 (A 3) 0) rfl k3 (B.r 200 3 15 (by decide)) (B.r 201 3 16 (by decide)) k15 k16 (fun j hj => absurd hj (Nat.not_lt_zero j))
  rw [show fu - 17 + 16 + 1 = fu by omega] at c1
  have c1 : fX2_makeEmpty fu X (A 3) = some X1 := by
    unfold fX2_makeEmpty
    rw [if_pos k3]
    exact c1
  have fm1 : Fm (fun b => b = A 3 ∨ b = A 15 ∨ b = A 16) X X1 := Fm.trans (P := fun b => b = A 3 ∨ b = A 15 ∨ b = A 16) (Fm.wI (Or.inl (Or.inl rfl))) (c2.fm.mono (fun b _ z => Or.inr z))
  have g1 : FreshM X1 := (hF.cg (X1 := wI X 202 (A 3) 0) rfl rfl).cg c2.1 c2.2.2.2.2.1
  have rk1 : RfK X X1 := RfK.of c2.2.1
  have m202 : mI X1 202 (A 3) = 0 := by rw [c3, mI_wI, if_pos ⟨rfl, rfl⟩]
  have hz1 : mZ X1 = mZ X := c2.2.2.2.2.1
  have hk1 : mK X1 = mK X := c2.1
  have hr1 : mR X1 = mR X := c2.2.1
  have hP1 : ∀ (L : List Nat), 3 ∉ L → 15 ∉ L → 16 ∉ L → ∀ a, ro a ∈ L → ¬ (a = A 3 ∨ a = A 15 ∨ a = A 16) := by
    rintro L y1 y2 y3 a ha (z | z | z)
    · rw [z, o3] at ha; exact y1 ha
    · rw [z, o15] at ha; exact y2 ha
    · rw [z, o16] at ha; exact y3 ha
  have id9 : ∀ a, a < mZ X → ro a = ro a := fun _ _ => rfl
  have B1 : BaseX A ro X1 := B.fm hF fm1 rk1 id9 (B.2.2.fm hF (B.k 4 0 0 (by decide)) fm1 id9 (hP1 [4] (by decide) (by decide) (by decide) _ (by rw [B.o 4 0 0 (by decide)]; decide)))
  have h50 : ∀ {a : Nat}, ro a = 50 → ¬ (a = A 3 ∨ a = A 15 ∨ a = A 16) := fun ha => hP1 [50] (by decide) (by decide) (by decide) _ (by rw [ha]; decide)
  have h1' := h1.fm hF fm1 (h50 r1) (h50 r2) (h50 r3) (h50 r4) (h50 r5) (h50 r6) (fun i hi => h50 (h7 i hi))
  -- the run
  have hd : RGd (gA A (A 3) (A 15) (A 16) (pa p) os pa9 wa9 oa) := by
    refine RGd_of (fun a => if a = pa9 then 6 else if a = wa9 then 7 else if ro a = 12 then 1 else if ro a = 13 then 2 else if ro a = 14 then 3 else if ro a = 15 then 4 else 5) ?_ ?_ ?_ ?_ ?_ ?_ ?_
    · show (if A 12 = pa9 then 6 else if A 12 = wa9 then 7 else if ro (A 12) = 12 then 1 else if ro (A 12) = 13 then 2 else if ro (A 12) = 14 then 3 else if ro (A 12) = 15 then 4 else 5) = 1
      rw [if_neg (nro o12 r3 (by decide)), if_neg (nro o12 r4 (by decide)), if_pos o12]
    · show (if A 13 = pa9 then 6 else if A 13 = wa9 then 7 else if ro (A 13) = 12 then 1 else if ro (A 13) = 13 then 2 else if ro (A 13) = 14 then 3 else if ro (A 13) = 15 then 4 else 5) = 2
      rw [if_neg (nro o13 r3 (by decide)), if_neg (nro o13 r4 (by decide)), if_neg (by rw [o13]; decide), if_pos o13]
    · show (if A 14 = pa9 then 6 else if A 14 = wa9 then 7 else if ro (A 14) = 12 then 1 else if ro (A 14) = 13 then 2 else if ro (A 14) = 14 then 3 else if ro (A 14) = 15 then 4 else 5) = 3
      rw [if_neg (nro o14 r3 (by decide)), if_neg (nro o14 r4 (by decide)), if_neg (by rw [o14]; decide), if_neg (by rw [o14]; decide), if_pos o14]
    · show (if A 15 = pa9 then 6 else if A 15 = wa9 then 7 else if ro (A 15) = 12 then 1 else if ro (A 15) = 13 then 2 else if ro (A 15) = 14 then 3 else if ro (A 15) = 15 then 4 else 5) = 4
      rw [if_neg (nro o15 r3 (by decide)), if_neg (nro o15 r4 (by decide)), if_neg (by rw [o15]; decide), if_neg (by rw [o15]; decide), if_neg (by rw [o15]; decide), if_pos o15]
    · show (if A 16 = pa9 then 6 else if A 16 = wa9 then 7 else if ro (A 16) = 12 then 1 else if ro (A 16) = 13 then 2 else if ro (A 16) = 14 then 3 else if ro (A 16) = 15 then 4 else 5) = 5
      rw [if_neg (nro o16 r3 (by decide)), if_neg (nro o16 r4 (by decide)), if_neg (by rw [o16]; decide), if_neg (by rw [o16]; decide), if_neg (by rw [o16]; decide), if_neg (by rw [o16]; decide)]
    · exact if_pos rfl
    · show (if wa9 = pa9 then 6 else if wa9 = wa9 then 7 else _) = 7
      rw [if_neg hpw.symm, if_pos rfl]
  have hG : RG (gA A (A 3) (A 15) (A 16) (pa p) os pa9 wa9 oa) (pgK (G p)) (pgT (G p)) (pgV (G p)) (pgN (G p)) (pgn (G p)) (clG (pgK (G p)) (pgn (G p))) (wsF (pgK (G p)) (pgT (G p)) (pgn (G p))) (wR X1 704 (A 2) (some (A 3))) := RG_of B1 h1'.1 h1'.2.1 h1'.2.2.1 (B1.k 3 2 0 (by decide)) (B1.r 200 3 15 (by decide)) (B1.r 201 3 16 (by decide)) (B1.k 15 20 16 (by decide)) (B1.k 16 20 16 (by decide)) h1'.2.2.2.2.2.2.2.2.2.2.2.1 h1'.2.2.2.2.2.2.2.2.2.2.2.2.1 hd (nro o3 o2 (by decide))
  obtain ⟨X', z1, z2, z3⟩ := c_perform (fu := fu) (ms := ms) (g := gA A (A 3) (A 15) (A 16) (pa p) os pa9 wa9 oa) gb.1 (clG_ok gb.1) hms (by omega) hG m202 (fun j hj => (c4 j hj).1) (fun j hj => (c4 j hj).2) (nro o2 o3 (by decide))
  have z1 : fX7_perform fu X1 (A 2) (some (pa p)) (some (A 3)) (nI ms) = some X' := z1
  obtain ⟨fm2, rk2⟩ := FR.fm z2
  have hP2 : ∀ (L : List Nat), (∀ i ∈ [2, 3, 12, 13, 14, 15, 16], i ∉ L) → ∀ a, ro a ∈ L → ¬ (a = A 2 ∨ a = A 3 ∨ a = A 12 ∨ a = A 13 ∨ a = A 14 ∨ a = A 15 ∨ a = A 16) := by
    rintro L y a ha (z | z | z | z | z | z | z)
    · rw [z, o2] at ha; exact y 2 (by decide) ha
    · rw [z, o3] at ha; exact y 3 (by decide) ha
    · rw [z, o12] at ha; exact y 12 (by decide) ha
    · rw [z, o13] at ha; exact y 13 (by decide) ha
    · rw [z, o14] at ha; exact y 14 (by decide) ha
    · rw [z, o15] at ha; exact y 15 (by decide) ha
    · rw [z, o16] at ha; exact y 16 (by decide) ha
  have id1 : ∀ a, a < mZ X1 → ro a = ro a := fun _ _ => rfl
  have B2 : BaseX A ro X' := B1.fm g1 fm2 rk2 id1 (B1.2.2.fm g1 (B1.k 4 0 0 (by decide)) fm2 id1 (hP2 [4] (by decide) _ (by rw [B.o 4 0 0 (by decide)]; decide)))
  have Wk1 := Wk.fm B hF fm1 id9 (hP1 _ (by decide) (by decide) (by decide))
  have RX : RelX A ro pa ea wa K T V N n np G ne ew eo es nw wp we wc wo W H X' := ⟨B2, (D.fm B hF fm1 id9 (hP1 _ (by decide) (by decide) (by decide))).fm B1 g1 fm2 id1 (hP2 _ (by decide)), (P.fm B hF fm1 id9 (hP1 _ (by decide) (by decide) (by decide))).fm B1 g1 fm2 id1 (hP2 _ (by decide)), (E.fm B hF fm1 id9 (hP1 _ (by decide) (by decide) (by decide))).fm B1 g1 fm2 id1 (hP2 _ (by decide)), Wk1.fm B1 g1 fm2 id1 (hP2 _ (by decide)), (Wl.fm B hF fm1 (hP1 _ (by decide) (by decide) (by decide))).fm B1 g1 fm2 (hP2 _ (by decide)), (Hg.fm Wk hF fm1 (hP1 _ (by decide) (by decide) (by decide))).fm Wk1 g1 fm2 (hP2 _ (by decide))⟩
  have hv : mI X' 202 (A 3) = cS (finB (pgK (G p)) (pgT (G p)) (pgV (G p)) (pgN (G p)) (pgn (G p))) (if cC (finB (pgK (G p)) (pgT (G p)) (pgV (G p)) (pgN (G p)) (pgn (G p))) ≤ ms then cC (finB (pgK (G p)) (pgT (G p)) (pgV (G p)) (pgN (G p)) (pgn (G p))) else ms) := by
    rcases z3 with ⟨z3, z4⟩ | ⟨z3, z4, z5⟩
    · have q := z3.all.2.2.2.2.1
      have q : mI X' 202 (A 3) = cS (finB (pgK (G p)) (pgT (G p)) (pgV (G p)) (pgN (G p)) (pgn (G p))) (cC (finB (pgK (G p)) (pgT (G p)) (pgV (G p)) (pgN (G p)) (pgn (G p)))) := q
      have z4 : cC (finB (pgK (G p)) (pgT (G p)) (pgV (G p)) (pgN (G p)) (pgn (G p))) ≤ ms := z4
      rw [if_pos z4]
      exact q
    · have q : mI X' 202 (A 3) = cS (finB (pgK (G p)) (pgT (G p)) (pgV (G p)) (pgN (G p)) (pgn (G p))) ms := z4
      have z5 : ms ≤ cC (finB (pgK (G p)) (pgT (G p)) (pgV (G p)) (pgN (G p)) (pgn (G p))) := z5
      by_cases e9 : cC (finB (pgK (G p)) (pgT (G p)) (pgV (G p)) (pgN (G p)) (pgn (G p))) ≤ ms
      · rw [if_pos e9, q]
        congr 1
        omega
      · rw [if_neg e9]
        exact q
  have hok : nI ms ≤ (600 : Int32) := (nI_leI (by omega) (by omega : 600 < 2 ^ 31)).mpr hms
  unfold fX11_strokesBySteps
  rw [if_pos hx, x_progI B P b1 hp, bE_r, if_neg (nI_pos (by omega)), if_pos hok, B.r 1102 0 3 (by decide), bi_some, if_pos k3, c1, bi_some, if_pos (B1.k 0 11 0 (by decide)), B1.r 1101 0 2 (by decide), bi_some, if_pos (B1.k 2 7 0 (by decide)), B1.r 1102 0 3 (by decide), z1, bi_some, if_pos (B2.k 0 11 0 (by decide)), B2.r 1102 0 3 (by decide), bi_some, if_pos (B2.k 3 2 0 (by decide)), hv]
  exact ⟨X', rfl, ⟨g1.cg z2.1 z2.2.2.2.2.1, A, ro, pa, ea, wa, rfl, RX⟩, by have := fm2.1; omega, fun a ha => by rw [fm2.2.1 a (by omega), hk1]⟩
end MS
theorem PG.fm2 {P : Nat → Prop} {pr os pa n : Nat} {oa : Nat → Nat} {K T V N : Nat → Int32} {X X1 : Mem} (h : PG pr os pa oa K T V N n X) (hf : FreshM X) (k : Fm P X X1) (r : RfK X X1) (h2 : ¬ P os) (h3 : ∀ i, i < n → ¬ P (oa i)) : PG pr os pa oa K T V N n X1 := by
  obtain ⟨a1, a2, a3, a4, a5, a6⟩ := h
  have l1 := hf.lt a1
  refine ⟨k.k hf a1, by rw [r _ l1 _ (by omega) (by omega)]; exact a2, by rw [r _ l1 _ (by omega) (by omega)]; exact a3, k.k hf a4, k.k hf a5, fun i hi => ?_⟩
  obtain ⟨b1, b2, b3, b4, b5, b6⟩ := a6 i hi
  refine ⟨by rw [k.ar hf a4 h2]; exact b1, k.k hf b2, by rw [k.i hf b2 (h3 i hi) (by omega)]; exact b3, by rw [k.i hf b2 (h3 i hi) (by omega)]; exact b4, by rw [k.i hf b2 (h3 i hi) (by omega)]; exact b5, by rw [k.i hf b2 (h3 i hi) (by omega)]; exact b6⟩
theorem PgA.fm2 {P : Nat → Prop} {pr os pa wa fo dr ra ua n : Nat} {oa : Nat → Nat} {K T V N : Nat → Int32} {X X1 : Mem} (h : PgA pr os pa wa fo dr ra ua oa K T V N n X) (hf : FreshM X) (k : Fm P X X1) (r : RfK X X1) (p2 : ¬ P os) (p3 : ¬ P pa) (p4 : ¬ P wa) (p5 : ¬ P fo) (p9 : ∀ i, i < n → ¬ P (oa i)) : PgA pr os pa wa fo dr ra ua oa K T V N n X1 := by
  obtain ⟨a1, a2, a3, a4, a5, a6, a7, a8, a9, a10, a11, a12, a13, a14⟩ := h
  have l1 := hf.lt a1.1
  have l7 := hf.lt a7
  exact ⟨a1.fm2 hf k r p2 p9, by rw [r _ l1 _ (by omega) (by omega)]; exact a2, k.k hf a3, by rw [r _ l1 _ (by omega) (by omega)]; exact a4, k.k hf a5, by rw [r _ l1 _ (by omega) (by omega)]; exact a6, k.k hf a7, by rw [r _ l7 _ (by omega) (by omega)]; exact a8, k.k hf a9, by rw [r _ l7 _ (by omega) (by omega)]; exact a10, k.k hf a11, fun o ho hk => by rw [k.ai hf a1.2.2.2.2.1 p3]; exact a12 o ho hk, fun t ht => by rw [k.ai hf a3 p4]; exact a13 t ht, fun j hj => by rw [k.ai hf a5 p5]; exact a14 j hj⟩
theorem RfK.trans {X X1 X2 : Mem} (h : RfK X X1) (k : RfK X1 X2) (hz : mZ X ≤ mZ X1) : RfK X X2 := fun a ha i h2 h7 => (k a (Nat.lt_of_lt_of_le ha hz) i h2 h7).trans (h a ha i h2 h7)
section WRI
variable {fu : Nat} {A ro pa ea wa : Nat → Nat} {K T V N : Nat → Int32} {n np : Nat} {G : Nat → Pg} {ne : Nat} {ew : Nat → Nat} {eo es : Nat → Int32} {nw : Nat} {wp we : Nat → Nat} {wc : Nat → Int32} {wo : Nat → Option Nat} {W H : Nat} {X : Mem}
theorem x_write {pu : Int32} (hfu : 100000000 ≤ fu) (hF : FreshM X) (hX : RelX A ro pa ea wa K T V N n np G ne ew eo es nw wp we wc wo W H X) (hP : RelP K T V N n np G ne ew nw wp we wc wo W H) (hn0 : 0 < n) (hbr : br K n = []) (hnp : np < 30) (hpu : fX11_checkPupil X pu = some (.inr ())) :
    ∃ (X' : Mem) (ro' pa' : Nat → Nat) (k a b c d : Nat), fX11_write fu X (A 0) pu = some (.inr (nI np, X')) ∧ PgB K T V N n k a b c d ∧ RelX A ro' pa' ea wa K T V N 0 (np + 1) (upN G np (K, T, V, N, n, pu, k, a, b, c, d)) ne ew eo es nw wp we wc wo W H X' ∧ Keeps9 X X' ∧ FreshM X' := by
  obtain ⟨B, D, P, E, Wk, Wl, Hg⟩ := hX
  obtain ⟨pD, pP, pE, pW, pL⟩ := hP
  obtain ⟨oa, d1, d2, d3, d4⟩ := D
  have hVP : VP K T V N n := ⟨pD.1, pD.2.1, hbr, pD.2.2.1, pD.2.2.2.1, pD.2.2.2.2.1, pD.2.2.2.2.2⟩
  have hn30 := pD.1
  have hx := B.k 0 11 0 (by decide)
  have k6 := B.k 6 24 30 (by decide)
  have lt : ∀ {b : Nat} {k : Nat × Nat}, mK X b = some k → b < mZ X := fun h9 => hF.lt h9
  have l0 := lt hx
  have l1 := lt (B.k 1 1 0 (by decide))
  have l2 := lt (B.k 2 7 0 (by decide))
  have l6 := lt k6
  have l9 := lt (B.k 9 23 30 (by decide))
  have l10 := lt (B.k 10 21 4 (by decide))
  have l12 := lt (B.k 12 20 4 (by decide))
  have l13 := lt (B.k 13 20 270 (by decide))
  have l14 := lt (B.k 14 20 8 (by decide))
  -- a new program
  have fn : Fm (fun _ => False) X (nO X 5) := Fm.nO
  have gn : FreshM (nO X 5) := hF.nO
  have kn : mK (nO X 5) (mZ X) = some (5, 0) := mK_nO0
  have zn : mZ (nO X 5) = mZ X + 1 := rfl
  have Dn := d1.fm hF fn (fun z => z) (fun z => z) (fun _ _ z => z)
  have hin : ∀ k, mI (nO X 5) k (mZ X) = 0 := fun k => mI_nO0
  have rn : mR (nO X 5) 1100 (A 0) = some (A 1) := (mR_nO (by omega)).trans (B.r 1100 0 1 (by decide))
  have xn : mK (nO X 5) (A 0) = some (11, 0) := (mK_nO (by omega)).trans hx
  obtain ⟨os, pa9, wa9, fo, dr, ra, ua, X1, a1, a2, a3, a4, a5, a6, a7, a8, a9, a10, a11, a12, a13, a14, a15, a16, a17, a18, a19, a20, a21, a22, a23⟩ := d_init (fu := fu) (pu := pu) hVP hn0 (by omega) gn kn Dn hin
  have f1 : Fm (fun _ => False) X X1 := (((fn.mono (fun _ _ z => z.elim)).trans a2).mono (P := fun b => b = mZ X) (fun b hb z => by omega))
  have z1 : mZ X + 1 ≤ mZ X1 := by have := a2.1; omega
  have rk1 : RfK X X1 := fun a ha k _ _ => (f1.2.2 a ha (fun z => z)).2.1 k
  have hro : ∀ a, a < mZ X → (fun a => if a < mZ X then ro a else 50) a = ro a := fun a ha => if_pos ha
  have no0 : ∀ (L : List Nat) (a : Nat), ro a ∈ L → ¬ False := fun _ _ _ z => z
  have B1 : BaseX A (fun a => if a < mZ X then ro a else 50) X1 := B.fm hF f1 rk1 hro (B.2.2.fm hF (B.k 4 0 0 (by decide)) f1 hro (fun z => z))
  have P1 := P.fm (ro' := fun a => if a < mZ X then ro a else 50) B hF f1 hro (no0 _)
  have E1 := E.fm (ro' := fun a => if a < mZ X then ro a else 50) B hF f1 hro (no0 _)
  have Wk1 := Wk.fm (ro' := fun a => if a < mZ X then ro a else 50) B hF f1 hro (no0 _)
  have Wl1 := Wl.fm B hF f1 (no0 _)
  have Hg1 := Hg.fm Wk hF f1 (no0 _)
  have new50 : ∀ a, mZ X ≤ a → (fun a => if a < mZ X then ro a else 50) a = 50 := fun a ha => if_neg (by omega)
  -- its run
  have hd : RGd (gA A dr ra ua (mZ X) os pa9 wa9 oa) := by
    have q : ∀ a, a < mZ X → ra ≠ a ∧ ua ≠ a ∧ pa9 ≠ a ∧ wa9 ≠ a := fun a ha => by omega
    have old : ∀ a, a < mZ X → (if a = ra then 4 else if a = ua then 5 else if a = pa9 then 6 else if a = wa9 then 7 else if ro a = 12 then 1 else if ro a = 13 then 2 else 3) = (if ro a = 12 then 1 else if ro a = 13 then 2 else 3) := fun a ha => by
      obtain ⟨q1, q2, q3, q4⟩ := q a ha
      rw [if_neg q1.symm, if_neg q2.symm, if_neg q3.symm, if_neg q4.symm]
    refine RGd_of (fun a => if a = ra then 4 else if a = ua then 5 else if a = pa9 then 6 else if a = wa9 then 7 else if ro a = 12 then 1 else if ro a = 13 then 2 else 3) ?_ ?_ ?_ ?_ ?_ ?_ ?_
    · exact (old _ l12).trans (if_pos (B.o 12 20 4 (by decide)))
    · exact (old _ l13).trans (by rw [if_neg (by rw [B.o 13 20 270 (by decide)]; decide), if_pos (B.o 13 20 270 (by decide))])
    · exact (old _ l14).trans (by rw [if_neg (by rw [B.o 14 20 8 (by decide)]; decide), if_neg (by rw [B.o 14 20 8 (by decide)]; decide)])
    · exact if_pos rfl
    · show (if ua = ra then 4 else if ua = ua then 5 else _) = 5
      rw [if_neg a16.symm, if_pos rfl]
    · show (if pa9 = ra then 4 else if pa9 = ua then 5 else if pa9 = pa9 then 6 else _) = 6
      rw [if_neg a17.symm, if_neg a19.symm, if_pos rfl]
    · show (if wa9 = ra then 4 else if wa9 = ua then 5 else if wa9 = pa9 then 6 else if wa9 = wa9 then 7 else _) = 7
      rw [if_neg a18.symm, if_neg a20.symm, if_neg a21.symm, if_pos rfl]
  have hG : RG (gA A dr ra ua (mZ X) os pa9 wa9 oa) K T V N n (clG K n) (wsF K T n) (wR X1 704 (A 2) (some dr)) := RG_of B1 a4.1 a4.2.1 a4.2.2.1 a4.2.2.2.2.2.2.1 a4.2.2.2.2.2.2.2.1 a4.2.2.2.2.2.2.2.2.2.1 a4.2.2.2.2.2.2.2.2.1 a4.2.2.2.2.2.2.2.2.2.2.1 a4.2.2.2.2.2.2.2.2.2.2.2.1 a4.2.2.2.2.2.2.2.2.2.2.2.2.1 hd (by omega)
  obtain ⟨X2, y1, y2, y3⟩ := c_perform (fu := fu) (ms := 600) (g := gA A dr ra ua (mZ X) os pa9 wa9 oa) hVP (clG_ok hVP) (by omega) (by omega) hG a6 a7 a8 (show A 2 ≠ dr by omega)
  have y1 : fX7_perform fu X1 (A 2) (some (mZ X)) (some dr) 600 = some X2 := y1
  obtain ⟨f2, rk2⟩ := FR.fm y2
  have yCQ : CQ (gA A dr ra ua (mZ X) os pa9 wa9 oa) 600 X2 (finB K T V N n) := y3.elim (fun z => z.1) (fun z => absurd z.1 (by omega))
  obtain ⟨v1, v2, v3, v4, v5, v6⟩ := yCQ.all
  have v1 : mI X2 708 (A 2) = cF (finB K T V N n) := v1
  have v2 : mI X2 707 (A 2) = nI (cC (finB K T V N n)) := v2
  have v3 : ∀ j, j < 16 → aI X2 ra j = cR (finB K T V N n) j := v3
  have v4 : ∀ j, j < 16 → aI X2 ua j = cU (finB K T V N n) j := v4
  have v5 : mI X2 202 dr = cS (finB K T V N n) (cC (finB K T V N n)) := v5
  have v6 : Box (cC (finB K T V N n)) (cR (finB K T V N n)) (cU (finB K T V N n)) (cS (finB K T V N n) (cC (finB K T V N n))) (mI X2 203 dr) (mI X2 204 dr) (mI X2 205 dr) (mI X2 206 dr) := v6
  have hcc := CI_c (finB_CI hVP)
  have g2 : FreshM X2 := a3.cg (by rw [y2.1]; rfl) (by rw [y2.2.2.2.2.1]; rfl)
  have z2 : mZ X2 = mZ X1 := y2.2.2.2.2.1
  have m500 : mI X2 500 (mZ X) = pu := by
    rw [y2.2.2.2.2.2.1 500 _ (by omega) (by omega) (by omega)]
    exact a5
  -- its box
  obtain ⟨k, a, b, c, d, hB, hdr⟩ : ∃ k a b c d, PgB K T V N n k a b c d ∧ (mI X2 202 dr = nI k ∧ (0 < k → mI X2 203 dr = nI a ∧ mI X2 204 dr = nI b ∧ mI X2 205 dr = nI c ∧ mI X2 206 dr = nI d)) := by
    obtain ⟨k, u1, u2, u3, u4⟩ := v6
    by_cases e : k = 0
    · exact ⟨k, 0, 0, 0, 0, ⟨hVP, hn0, u2, by omega, fun _ => ⟨u3 e, rfl, rfl, rfl, rfl⟩, fun z => by omega⟩, by rw [v5]; exact u2, fun z => by omega⟩
    · obtain ⟨a, b, c, d, t1, t2, t3, t4, t5⟩ := u4 (by omega)
      exact ⟨k, a, b, c, d, ⟨hVP, hn0, u2, by omega, fun z => absurd z e, fun _ => t5⟩, by rw [v5]; exact u2, fun _ => ⟨t1, t2, t3, t4⟩⟩
  -- frames of the run
  have f2' : Fm (fun b => b = A 2 ∨ b = A 12 ∨ b = A 13 ∨ b = A 14) X X2 := ((f1.mono (fun _ _ z => z.elim)).trans f2).mono (P := fun a => a = A 2 ∨ a = dr ∨ a = A 12 ∨ a = A 13 ∨ a = A 14 ∨ a = ra ∨ a = ua) (fun b hb z => by
    rcases z with z | z | z | z | z | z | z
    · exact Or.inl z
    · omega
    · exact Or.inr (Or.inl z)
    · exact Or.inr (Or.inr (Or.inl z))
    · exact Or.inr (Or.inr (Or.inr z))
    · omega
    · omega)
  have rk2' : RfK X X2 := rk1.trans rk2 f1.1
  -- the tail: outcome, row, count
  have t1 : fX5_keepOutcome X2 (mZ X) (cF (finB K T V N n)) (nI (cC (finB K T V N n))) = some (wI (wI X2 506 (mZ X) (cF (finB K T V N n))) 507 (mZ X) (nI (cC (finB K T V N n)))) := by
    unfold fX5_keepOutcome
    rw [if_pos (show mK X2 (mZ X) = some (5, 0) by rw [y2.1]; exact a4.1.1)]
  have q0 : mK X2 (mZ X) = some (5, 0) := by rw [y2.1]; exact a4.1.1
  have q6 : mK X2 (A 6) = some (24, 30) := f2'.k hF k6
  have qx : mK X2 (A 0) = some (11, 0) := f2'.k hF hx
  have q1 : mK X2 (A 1) = some (1, 0) := f2'.k hF (B.k 1 1 0 (by decide))
  have qr : ∀ k i j, (k, i, j) ∈ bR → mR X2 k (A i) = some (A j) := fun k i j hq => by
    obtain ⟨c1, c2, p9, c3, c4⟩ := bR_ok _ hq
    have h9 := (B.1 p9 c3).1
    rw [c4] at h9
    rw [rk2' _ (lt h9) _ c1 c2]
    exact B.2.1 _ hq
  have f3 : Fm (fun b => b = mZ X ∨ b = A 6 ∨ b = A 0) X2 (wI (sR (wI (wI X2 506 (mZ X) (cF (finB K T V N n))) 507 (mZ X) (nI (cC (finB K T V N n)))) (A 6) np (some (mZ X))) 1108 (A 0) (nI (np + 1))) := Fm.trans (P := fun b => b = mZ X ∨ b = A 6 ∨ b = A 0) (Fm.trans (P := fun b => b = mZ X ∨ b = A 6 ∨ b = A 0) (Fm.trans (P := fun b => b = mZ X ∨ b = A 6 ∨ b = A 0) (Fm.wI (Or.inl (Or.inl rfl))) (Fm.wI (Or.inl (Or.inl rfl)))) (Fm.sR (Or.inr (Or.inl rfl)))) (Fm.wI (Or.inl (Or.inr (Or.inr rfl))))
  have g3 : FreshM (wI (sR (wI (wI X2 506 (mZ X) (cF (finB K T V N n))) 507 (mZ X) (nI (cC (finB K T V N n)))) (A 6) np (some (mZ X))) 1108 (A 0) (nI (np + 1))) := g2.cg rfl rfl
  have rk3 : RfK X2 (wI (sR (wI (wI X2 506 (mZ X) (cF (finB K T V N n))) 507 (mZ X) (nI (cC (finB K T V N n)))) (A 6) np (some (mZ X))) 1108 (A 0) (nI (np + 1))) := RfK.of rfl
  have m3 : ∀ i a, mI (wI (sR (wI (wI X2 506 (mZ X) (cF (finB K T V N n))) 507 (mZ X) (nI (cC (finB K T V N n)))) (A 6) np (some (mZ X))) 1108 (A 0) (nI (np + 1))) i a = if i = 1108 ∧ a = A 0 then nI (np + 1) else if i = 507 ∧ a = mZ X then nI (cC (finB K T V N n)) else if i = 506 ∧ a = mZ X then cF (finB K T V N n) else mI X2 i a := fun i a => by rw [mI_wI, mI_sR, mI_wI, mI_wI]
  have r3 : ∀ j, aR (wI (sR (wI (wI X2 506 (mZ X) (cF (finB K T V N n))) 507 (mZ X) (nI (cC (finB K T V N n)))) (A 6) np (some (mZ X))) 1108 (A 0) (nI (np + 1))) (A 6) j = if j = np then some (mZ X) else aR X2 (A 6) j := fun j => by
    rw [aR_wIx, aR_sR]
    by_cases ej : j = np
    · rw [if_pos ⟨rfl, ej⟩, if_pos ej]
    · rw [if_neg (fun z => ej z.2), if_neg ej]
      rfl
  have ai3 : ∀ a, aI (wI (sR (wI (wI X2 506 (mZ X) (cF (finB K T V N n))) 507 (mZ X) (nI (cC (finB K T V N n)))) (A 6) np (some (mZ X))) 1108 (A 0) (nI (np + 1))) a = aI X2 a := fun a => rfl
  have z3 : mZ (wI (sR (wI (wI X2 506 (mZ X) (cF (finB K T V N n))) 507 (mZ X) (nI (cC (finB K T V N n)))) (A 6) np (some (mZ X))) 1108 (A 0) (nI (np + 1))) = mZ X2 := rfl
  have w1 : fX11_write fu X (A 0) pu = Option.bind (fX1_makeEmpty fu (wI (sR (wI (wI X2 506 (mZ X) (cF (finB K T V N n))) 507 (mZ X) (nI (cC (finB K T V N n)))) (A 6) np (some (mZ X))) 1108 (A 0) (nI (np + 1))) (A 1)) fun X126 => (some (.inr (nI np, X126))) := by
    have hdl := hbr
    unfold fX11_write fX1_length fX1_openBlocks fX7_brokenBy fX7_counted
    have k71x : mK X1 (A 0) = some (11, 0) := f1.k hF hx
    have k71q : mK X1 (mZ X) = some (5, 0) := a4.1.1
    have k71r : mK X1 (A 2) = some (7, 0) := f1.k hF (B.k 2 7 0 (by decide))
    have k87r : mK X2 (A 2) = some (7, 0) := f2'.k hF (B.k 2 7 0 (by decide))
    have in6 : inb (wI (wI X2 506 (mZ X) (cF (finB K T V N n))) 507 (mZ X) (nI (cC (finB K T V N n)))) 4 (A 6) (nI np) = true := inb_of (X := wI (wI X2 506 (mZ X) (cF (finB K T V N n))) 507 (mZ X) (nI (cC (finB K T V N n)))) (t := 4) q6 hnp (by omega)
    have kk : ∀ b, mK (wI (wI X2 506 (mZ X) (cF (finB K T V N n))) 507 (mZ X) (nI (cC (finB K T V N n)))) b = mK X2 b := fun b => rfl
    have rr : ∀ k b, mR (wI (wI X2 506 (mZ X) (cF (finB K T V N n))) 507 (mZ X) (nI (cC (finB K T V N n)))) k b = mR X2 k b := fun k b => rfl
    have kk3 : ∀ b, mK (wI (sR (wI (wI X2 506 (mZ X) (cF (finB K T V N n))) 507 (mZ X) (nI (cC (finB K T V N n)))) (A 6) np (some (mZ X))) 1108 (A 0) (nI (np + 1))) b = mK X2 b := fun b => rfl
    have rr3 : ∀ k b, mR (wI (sR (wI (wI X2 506 (mZ X) (cF (finB K T V N n))) 507 (mZ X) (nI (cC (finB K T V N n)))) (A 6) np (some (mZ X))) 1108 (A 0) (nI (np + 1))) k b = mR X2 k b := fun k b => rfl
    rw [hpu, bE_r, if_pos hx, B.r 1100 0 1 (by decide), bi_some, if_pos d1.1, if_pos d1.1, bi_some, d1.2.2.2.1, if_neg (nI_ne0 hn0 (by omega)), bi_some, if_pos d1.1, if_pos d1.1, bi_some, d3, hbr, if_pos (show nI ([] : List Nat).length ≤ 0 by decide), P.1, if_neg (nI_pos (by omega)), B.r 1105 0 6 (by decide), bi_some, alen_of k6 (by decide), bi_some, if_pos ((nI_ltI (by omega) (by omega)).mpr hnp), bi_some, bi_some, if_pos xn, rn, a1, bi_some, if_pos k71x, if_pos k71q, B1.r 1101 0 2 (by decide), bi_some, if_pos k71r, a4.2.2.2.2.2.1, y1, bi_some, if_pos qx, qr 1101 0 2 (by decide), bi_some, if_pos k87r, if_pos k87r, bi_some, v1, bi_some, if_pos k87r, if_pos k87r, bi_some, v2, if_pos q0, t1, bi_some, kk, if_pos qx, rr, qr 1105 0 6 (by decide), bi_some, if_pos in6, kk, if_pos q0, nI_clamp (show np < 2 ^ 31 by omega), nI_1, rr3, qr 1100 0 1 (by decide), bi_some, kk3, if_pos q1]
  generalize wI (sR (wI (wI X2 506 (mZ X) (cF (finB K T V N n))) 507 (mZ X) (nI (cC (finB K T V N n)))) (A 6) np (some (mZ X))) 1108 (A 0) (nI (np + 1)) = X3 at f3 g3 rk3 m3 r3 ai3 z3 w1
  -- the draft is emptied
  have f23a : Fm (fun b => b = mZ X ∨ b = A 2 ∨ b = A 12 ∨ b = A 13 ∨ b = A 14 ∨ b = A 6 ∨ b = A 0 ∨ b = A 1 ∨ b = A 10) X X2 := f2'.mono (fun b _ z => by
    rcases z with z | z | z | z
    · exact Or.inr (Or.inl z)
    · exact Or.inr (Or.inr (Or.inl z))
    · exact Or.inr (Or.inr (Or.inr (Or.inl z)))
    · exact Or.inr (Or.inr (Or.inr (Or.inr (Or.inl z)))))
  have f23b : Fm (fun b => b = mZ X ∨ b = A 2 ∨ b = A 12 ∨ b = A 13 ∨ b = A 14 ∨ b = A 6 ∨ b = A 0 ∨ b = A 1 ∨ b = A 10) X2 X3 := f3.mono (fun b _ z => by
    rcases z with z | z | z
    · exact Or.inl z
    · exact Or.inr (Or.inr (Or.inr (Or.inr (Or.inr (Or.inl z)))))
    · exact Or.inr (Or.inr (Or.inr (Or.inr (Or.inr (Or.inr (Or.inl z)))))))
  have f23 : Fm (fun b => b = A 2 ∨ b = A 12 ∨ b = A 13 ∨ b = A 14 ∨ b = A 6 ∨ b = A 0 ∨ b = A 1 ∨ b = A 10) X X3 := (f23a.trans f23b).mono (fun b hb z => z.elim (fun y => by omega) id)
  have rk3' : RfK X X3 := rk2'.trans rk3 f2'.1
  have hP5 : ∀ (L : List Nat), (∀ i ∈ [2, 12, 13, 14, 6, 0, 1, 10], i ∉ L) → ∀ a, ro a ∈ L → ¬ (a = A 2 ∨ a = A 12 ∨ a = A 13 ∨ a = A 14 ∨ a = A 6 ∨ a = A 0 ∨ a = A 1 ∨ a = A 10) := by
    rintro L y a ha (z | z | z | z | z | z | z | z)
    · rw [z, B.o 2 7 0 (by decide)] at ha; exact y 2 (by decide) ha
    · rw [z, B.o 12 20 4 (by decide)] at ha; exact y 12 (by decide) ha
    · rw [z, B.o 13 20 270 (by decide)] at ha; exact y 13 (by decide) ha
    · rw [z, B.o 14 20 8 (by decide)] at ha; exact y 14 (by decide) ha
    · rw [z, B.o 6 24 30 (by decide)] at ha; exact y 6 (by decide) ha
    · rw [z, B.o 0 11 0 (by decide)] at ha; exact y 0 (by decide) ha
    · rw [z, B.o 1 1 0 (by decide)] at ha; exact y 1 (by decide) ha
    · rw [z, B.o 10 21 4 (by decide)] at ha; exact y 10 (by decide) ha
  have n4 : ¬ (A 4 = A 2 ∨ A 4 = A 12 ∨ A 4 = A 13 ∨ A 4 = A 14 ∨ A 4 = A 6 ∨ A 4 = A 0 ∨ A 4 = A 1 ∨ A 4 = A 10) := hP5 [4] (by decide) _ (by rw [B.o 4 0 0 (by decide)]; decide)
  have B3 : BaseX A (fun a => if a < mZ X then ro a else 50) X3 := B.fm hF f23 rk3' hro (B.2.2.fm hF (B.k 4 0 0 (by decide)) f23 hro n4)
  obtain ⟨X4, s1, f4, s2, s3, s4, D4⟩ := x_wipe (fu := fu) (K := K) (T := T) (V := V) (N := N) (by omega) B3
  have f5 : Fm (fun b => b = A 2 ∨ b = A 12 ∨ b = A 13 ∨ b = A 14 ∨ b = A 6 ∨ b = A 0 ∨ b = A 1 ∨ b = A 10) X X4 := f23.trans (f4.mono (fun b _ z => z.elim (fun y => Or.inr (Or.inr (Or.inr (Or.inr (Or.inr (Or.inr (Or.inl y))))))) (fun y => Or.inr (Or.inr (Or.inr (Or.inr (Or.inr (Or.inr (Or.inr y)))))))))
  have rk5 : RfK X X4 := rk3'.trans (RfK.of s2) f23.1
  have B4 : BaseX A (fun a => if a < mZ X then ro a else 50) X4 := B.fm hF f5 rk5 hro (B.2.2.fm hF (B.k 4 0 0 (by decide)) f5 hro n4)
  have n01 : A 0 ≠ A 1 := nro (B.o 0 11 0 (by decide)) (B.o 1 1 0 (by decide)) (by decide)
  have n010 : A 0 ≠ A 10 := nro (B.o 0 11 0 (by decide)) (B.o 10 21 4 (by decide)) (by decide)
  have x0 : ¬ (A 0 = A 1 ∨ A 0 = A 10) := fun z => z.elim n01 n010
  have x2 : ¬ (A 0 = A 2 ∨ A 0 = A 12 ∨ A 0 = A 13 ∨ A 0 = A 14) := fun z => by
    rcases z with z | z | z | z
    · exact nro (B.o 0 11 0 (by decide)) (B.o 2 7 0 (by decide)) (by decide) z
    · exact nro (B.o 0 11 0 (by decide)) (B.o 12 20 4 (by decide)) (by decide) z
    · exact nro (B.o 0 11 0 (by decide)) (B.o 13 20 270 (by decide)) (by decide) z
    · exact nro (B.o 0 11 0 (by decide)) (B.o 14 20 8 (by decide)) (by decide) z
  have x62 : ¬ (A 6 = A 2 ∨ A 6 = A 12 ∨ A 6 = A 13 ∨ A 6 = A 14) := fun z => by
    rcases z with z | z | z | z
    · exact nro (B.o 6 24 30 (by decide)) (B.o 2 7 0 (by decide)) (by decide) z
    · exact nro (B.o 6 24 30 (by decide)) (B.o 12 20 4 (by decide)) (by decide) z
    · exact nro (B.o 6 24 30 (by decide)) (B.o 13 20 270 (by decide)) (by decide) z
    · exact nro (B.o 6 24 30 (by decide)) (B.o 14 20 8 (by decide)) (by decide) z
  have x6 : ¬ (A 6 = A 1 ∨ A 6 = A 10) := fun z => z.elim (fun y => nro (B.o 6 24 30 (by decide)) (B.o 1 1 0 (by decide)) (by decide) y) (fun y => nro (B.o 6 24 30 (by decide)) (B.o 10 21 4 (by decide)) (by decide) y)
  have kx3 : mK X3 (A 0) = some (11, 0) := B3.k 0 11 0 (by decide)
  have k63 : mK X3 (A 6) = some (24, 30) := B3.k 6 24 30 (by decide)
  have sx : ∀ i, 1108 < i → mI X4 i (A 0) = mI X i (A 0) := fun i hi => by
    rw [f4.i g3 kx3 x0 (by omega), m3, if_neg (by omega), if_neg (by omega), if_neg (by omega), f2'.i hF hx x2 (by omega)]
  have row6 : ∀ j, aR X4 (A 6) j = if j = np then some (mZ X) else aR X (A 6) j := fun j => by
    rw [f4.ar g3 k63 x6, r3, f2'.ar hF k6 x62]
  -- the new program
  have kos1 : mK X1 os = some (23, n) := a4.1.2.2.2.1
  have kpa1 : mK X1 pa9 = some (20, n) := a4.1.2.2.2.2.1
  have kwa1 : mK X1 wa9 = some (20, 4) := a4.2.2.1
  have kfo1 : mK X1 fo = some (20, n) := a4.2.2.2.2.1
  have kdr1 : mK X1 dr = some (2, 0) := a4.2.2.2.2.2.2.1
  have kra1 : mK X1 ra = some (20, 16) := a4.2.2.2.2.2.2.2.2.1
  have kua1 : mK X1 ua = some (20, 16) := a4.2.2.2.2.2.2.2.2.2.2.1
  have koa1 : ∀ i, i < n → mK X1 (oa i) = some (4, 0) := fun i hi => (a4.1.2.2.2.2.2 i hi).2.1
  have eq2 : ∀ b, mK X2 b = mK X1 b := fun b => by rw [y2.1]; rfl
  have Pg2 := a4.fm2 a3 f2 rk2 (fun z => by
      rcases z with z | z | z | z | z | z | z
      · omega
      · exact kne1 kos1 kdr1 (by decide) z
      · omega
      · omega
      · omega
      · exact kne1 kos1 kra1 (by decide) z
      · exact kne1 kos1 kua1 (by decide) z) (fun z => by
      rcases z with z | z | z | z | z | z | z
      · omega
      · exact kne1 kpa1 kdr1 (by decide) z
      · omega
      · omega
      · omega
      · exact a17 z.symm
      · exact a19 z.symm) (fun z => by
      rcases z with z | z | z | z | z | z | z
      · omega
      · exact kne1 kwa1 kdr1 (by decide) z
      · omega
      · omega
      · omega
      · exact a18 z.symm
      · exact a20 z.symm) (fun z => by
      rcases z with z | z | z | z | z | z | z
      · omega
      · exact kne1 kfo1 kdr1 (by decide) z
      · omega
      · omega
      · omega
      · exact a22 z
      · exact a23 z) (fun i hi z => by
      have ko := koa1 i hi
      rcases z with z | z | z | z | z | z | z
      · exact kne1 ko (B1.k 2 7 0 (by decide)) (by decide) z
      · exact kne1 ko kdr1 (by decide) z
      · exact kne1 ko (B1.k 12 20 4 (by decide)) (by decide) z
      · exact kne1 ko (B1.k 13 20 270 (by decide)) (by decide) z
      · exact kne1 ko (B1.k 14 20 8 (by decide)) (by decide) z
      · exact kne1 ko kra1 (by decide) z
      · exact kne1 ko kua1 (by decide) z)
  have e3 : ∀ {b c m : Nat}, mK X2 b = some (c, m) → c ≠ 5 → c ≠ 24 → c ≠ 11 → ¬ (b = mZ X ∨ b = A 6 ∨ b = A 0) := fun h9 c5 c24 c11 z => by
    rcases z with z | z | z
    · exact kne1 h9 q0 c5 z
    · exact kne1 h9 q6 c24 z
    · exact kne1 h9 qx c11 z
  have Pg3 := Pg2.fm2 g2 f3 rk3 (e3 Pg2.1.2.2.2.1 (by decide) (by decide) (by decide)) (e3 Pg2.1.2.2.2.2.1 (by decide) (by decide) (by decide)) (e3 Pg2.2.2.1 (by decide) (by decide) (by decide)) (e3 Pg2.2.2.2.2.1 (by decide) (by decide) (by decide)) (fun i hi => e3 (Pg2.1.2.2.2.2.2 i hi).2.1 (by decide) (by decide) (by decide))
  have e4 : ∀ {b c m : Nat}, mK X3 b = some (c, m) → c ≠ 1 → c ≠ 21 → ¬ (b = A 1 ∨ b = A 10) := fun h9 c5 c24 z => by
    rcases z with z | z
    · exact kne1 h9 (B3.k 1 1 0 (by decide)) c5 z
    · exact kne1 h9 (B3.k 10 21 4 (by decide)) c24 z
  have Pg4 := Pg3.fm2 g3 f4 (RfK.of s2) (e4 Pg3.1.2.2.2.1 (by decide) (by decide)) (e4 Pg3.1.2.2.2.2.1 (by decide) (by decide)) (e4 Pg3.2.2.1 (by decide) (by decide)) (e4 Pg3.2.2.2.2.1 (by decide) (by decide)) (fun i hi => e4 (Pg3.1.2.2.2.2.2 i hi).2.1 (by decide) (by decide))
  have kq3 : mK X3 (mZ X) = some (5, 0) := Pg3.1.1
  have iq : ∀ i, 500 ≤ i → i < 508 → mI X4 i (mZ X) = mI X3 i (mZ X) := fun i h1 h2 => f4.i g3 kq3 (e4 kq3 (by decide) (by decide)) (by omega)
  have kdr3 : mK X3 dr = some (2, 0) := Pg3.2.2.2.2.2.2.1
  have kdr2 : mK X2 dr = some (2, 0) := Pg2.2.2.2.2.2.2.1
  have idr : ∀ i, 202 ≤ i → i < 207 → mI X4 i dr = mI X2 i dr := fun i h1 h2 => by
    rw [f4.i g3 kdr3 (e4 kdr3 (by decide) (by decide)) (by omega), m3, if_neg (by omega), if_neg (by omega), if_neg (by omega)]
  have Dr4 : DrA dr ra ua k a b c d (cR (finB K T V N n)) (cU (finB K T V N n)) X4 := by
    refine ⟨Pg4.2.2.2.2.2.2.1, Pg4.2.2.2.2.2.2.2.1, Pg4.2.2.2.2.2.2.2.2.2.1, Pg4.2.2.2.2.2.2.2.2.1, Pg4.2.2.2.2.2.2.2.2.2.2.1, by rw [idr _ (by omega) (by omega)]; exact hdr.1, fun hk => ?_, fun j hj => ?_, fun j hj => ?_⟩
    · rw [idr _ (by omega) (by omega), idr _ (by omega) (by omega), idr _ (by omega) (by omega), idr _ (by omega) (by omega)]
      exact hdr.2 hk
    · rw [f4.ai g3 Pg3.2.2.2.2.2.2.2.2.1 (e4 Pg3.2.2.2.2.2.2.2.2.1 (by decide) (by decide)), ai3]
      exact v3 j hj
    · rw [f4.ai g3 Pg3.2.2.2.2.2.2.2.2.2.2.1 (e4 Pg3.2.2.2.2.2.2.2.2.2.2.1 (by decide) (by decide)), ai3]
      exact v4 j hj
  have PrN : PrgX (fun a => if a < mZ X then ro a else 50) (mZ X) (K, T, V, N, n, pu, k, a, b, c, d) X4 := by
    refine ⟨os, pa9, wa9, fo, dr, ra, ua, oa, Pg4, ?_, ?_, ?_, Dr4, ⟨new50 _ (by omega), new50 _ (by omega), new50 _ (by omega), new50 _ (by omega), new50 _ (by omega), new50 _ (by omega), new50 _ (by omega), new50 _ (by omega)⟩, fun i hi => ?_, a21⟩
    · rw [iq _ (by omega) (by omega), m3, if_neg (by omega), if_neg (by omega), if_neg (by omega)]
      exact m500
    · rw [iq _ (by omega) (by omega), m3, if_neg (by omega), if_neg (by omega), if_pos ⟨rfl, rfl⟩]
      rfl
    · rw [iq _ (by omega) (by omega), m3, if_neg (by omega), if_pos ⟨rfl, rfl⟩]
      rfl
    · exact (hro _ (lt (d1.2.2.2.2 i hi).2.1)).trans (d2 i hi)
  have P4 : PrsX A (fun a => if a < mZ X then ro a else 50) (upN pa np (mZ X)) (np + 1) (upN G np (K, T, V, N, n, pu, k, a, b, c, d)) X4 := by
    refine ⟨?_, fun p hp => ?_⟩
    · rw [f4.i g3 kx3 x0 (by omega), m3, if_pos ⟨rfl, rfl⟩]
    · rw [row6]
      by_cases e : p = np
      · rw [e, if_pos rfl, upN_s, upN_s]
        exact ⟨rfl, PrN⟩
      · rw [if_neg e, upN_o e, upN_o e]
        exact ⟨(P.2 p (by omega)).1, (P.2 p (by omega)).2.fm hF f5 hro (fun a ha => hP5 [50] (by decide) a (by rw [ha]; decide))⟩
  have E4 : ExsX A (fun a => if a < mZ X then ro a else 50) (upN pa np (mZ X)) ea ne ew eo es X4 := by
    have q := E.fm' B hF f5 hro (sx 1109 (by omega)) (hP5 _ (by decide))
    refine ⟨q.1, q.2.1, fun i hi => ?_⟩
    rw [upN_o (by have := pE.2 i hi; omega)]
    exact q.2.2 i hi
  have Wk4 : WksX A (fun a => if a < mZ X then ro a else 50) (upN pa np (mZ X)) ea wa nw wp we wc wo X4 := by
    have q := Wk.fm' B hF f5 hro (sx 1110 (by omega)) (hP5 _ (by decide))
    refine ⟨q.1, q.2.1, fun i hi => ?_⟩
    rw [upN_o (by have := (pW.2.1 i hi).1; omega)]
    exact q.2.2 i hi
  have eL : layG W H (upN G np (K, T, V, N, n, pu, k, a, b, c, d)) ew eo es wp we wc wo nw = layG W H G ew eo es wp we wc wo nw := layG_cg (fun i hi => by
    have h1 := (pW.2.1 i hi).1
    have h2 := pE.2 _ (pW.2.1 i hi).2.1
    unfold wdG hgG okG MtG
    rw [upN_o (by omega), upN_o (by omega)]
    exact ⟨rfl, rfl, Iff.rfl⟩)
  have Hg4 : HngX W wa nw (layG W H (upN G np (K, T, V, N, n, pu, k, a, b, c, d)) ew eo es wp we wc wo nw) X4 := by
    rw [eL]
    exact Hg.fm Wk hF f5 (hP5 _ (by decide))
  refine ⟨X4, fun a => if a < mZ X then ro a else 50, upN pa np (mZ X), k, a, b, c, d, ?_, hB, ⟨B4, D4, P4, E4, Wk4, Wl.fm B hF f5 (hP5 _ (by decide)), Hg4⟩, ⟨f5.1, f5.2.1⟩, g3.cg s3 s4⟩
  rw [w1, s1, bi_some]
end WRI
section MT
variable {fu x : Nat} {K T V N : Nat → Int32} {n np : Nat} {G : Nat → Pg} {ne : Nat} {ew : Nat → Nat} {eo es : Nat → Int32} {nw : Nat} {wp we : Nat → Nat} {wc : Nat → Int32} {wo : Nat → Option Nat} {W H : Nat} {X : Mem}
theorem m_write {u : Nat} (hfu : 100000000 ≤ fu) (h : StX x K T V N n np G ne ew eo es nw wp we wc wo W H X) (hP : RelP K T V N n np G ne ew nw wp we wc wo W H) (hn0 : 0 < n) (hbr : br K n = []) (hnp : np < 30) (hu : u < 6) : ∃ (X1 : Mem) (k a b c d : Nat), fX11_write fu X x (nI u) = some (.inr (nI np, X1)) ∧ StX x K T V N 0 (np + 1) (upN G np (K, T, V, N, n, nI u, k, a, b, c, d)) ne ew eo es nw wp we wc wo W H X1 ∧ RelP K T V N 0 (np + 1) (upN G np (K, T, V, N, n, nI u, k, a, b, c, d)) ne ew nw wp we wc wo W H ∧ Keeps9 X X1 := by
  have hpu : fX11_checkPupil X (nI u) = some (.inr ()) := (x_pupil (X := X) (nI u)).elim (fun z => z.2) (fun z => absurd ⟨u, hu, rfl⟩ z.1)
  have hP0 := hP
  obtain ⟨hF, A, ro, pa, ea, wa, rfl, hX⟩ := h
  obtain ⟨pD, pP, pE, pW, pL⟩ := hP
  obtain ⟨X', ro', pa', k, a, b, c, d, w1, hB, w2, w3, w4⟩ := x_write (fu := fu) hfu hF hX hP0 hn0 hbr hnp hpu
  refine ⟨X', k, a, b, c, d, w1, ⟨w4, A, ro', pa', ea, wa, rfl, w2⟩, ?_, w3⟩
  have pP1 : PrsP (np + 1) (upN G np (K, T, V, N, n, nI u, k, a, b, c, d)) := ⟨by omega, fun p hp => by
    by_cases e : p = np
    · rw [e, upN_s]
      exact hB
    · rw [upN_o e]
      exact pP.2 p (by omega)⟩
  have pE1 : ExsP (np + 1) ne ew := ⟨pE.1, fun i hi => Nat.lt_succ_of_lt (pE.2 i hi)⟩
  have pW1 : WksP (np + 1) ne nw (upN G np (K, T, V, N, n, nI u, k, a, b, c, d)) wp we wc wo := ⟨pW.1, fun i hi => ⟨Nat.lt_succ_of_lt (pW.2.1 i hi).1, (pW.2.1 i hi).2.1, OrgP_cg (pW.2.1 i hi).2.2 (fun v hv => by
    have h1 := (pW.2.1 i hi).1
    have h2 := (pW.2.1 v (by omega)).1
    unfold cpG
    rw [upN_o (by omega), upN_o (by omega)])⟩, pW.2.2.1, pW.2.2.2⟩
  exact ⟨DrfP_0, pP1, pE1, pW1, pL⟩
end MT
