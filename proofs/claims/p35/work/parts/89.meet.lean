/-! MEETING, COPIES AND THE WALL, out of the state of both sides -/
theorem GB.z {g : Pg} (h : GB g) (e : pgk g = 0) : ∀ j, j < 16 → cR (pgF g) j = 0 ∧ cU (pgF g) j = 0 := rows0 (finB_RB h.1).1 (finB_RB h.1).2 (h.2.2.2.2.1 e).1
theorem PG.len {pr os pa n : Nat} {oa : Nat → Nat} {K T V N : Nat → Int32} {X : Mem} (h : PG pr os pa oa K T V N n X) : fX5_length X pr = some (nI n) := by
  unfold fX5_length
  rw [if_pos h.1, h.2.1, bi_some, alen_of h.2.2.2.1 (by decide), bi_some]
theorem dr_cells {dr ra ua k a b c d : Nat} {R U : Nat → Int32} {X : Mem} (h : DrA dr ra ua k a b c d R U X) (hk : k ≤ 600) (hl : a ≤ c ∧ b ≤ d) (h0 : k = 0 → a = 0 ∧ b = 0 ∧ c = 0 ∧ d = 0) : fX2_cellsWide X dr = some (nI (c - a + 1)) ∧ fX2_cellsHigh X dr = some (nI (d - b + 1)) := by
  obtain ⟨a1, a2, a3, a4, a5, a6, a7, a8, a9⟩ := h
  unfold fX2_cellsWide fX2_cellsHigh
  rw [if_pos a1, if_pos a1, a6]
  by_cases e : k = 0
  · obtain ⟨rfl, rfl, rfl, rfl⟩ := h0 e
    rw [if_pos (by rw [e]; rfl), if_pos (by rw [e]; rfl)]
    exact ⟨rfl, rfl⟩
  · obtain ⟨b1, b2, b3, b4⟩ := a7 (by omega)
    rw [if_neg (nI_ne0 (by omega) (by omega)), if_neg (nI_ne0 (by omega) (by omega)), b1, b2, b3, b4, pk_sub hl.1, pk_sub hl.2, nI_1, nI_1]
    exact ⟨rfl, rfl⟩
theorem x_shift {fu a a' : Nat} {ro : Nat → Nat} {g g' : Pg} {X : Mem} (hfu : 100 ≤ fu) (h : PrgX ro a g X) (h' : PrgX ro a' g' X) (hB : GB g) (hB' : GB g') : ∃ dr dr', mR X 505 a = some dr ∧ mK X dr = some (2, 0) ∧ mR X 505 a' = some dr' ∧ ∃ r, fX2_isShiftOf fu X dr (some dr') = some r ∧ TF r (AlG g g') := by
  obtain ⟨os, pa, wa, fo, dr, ra, ua, oa, h1, h2, h3, h4, h5, -, -⟩ := h
  obtain ⟨os', pa', wa', fo', dr', ra', ua', oa', i1, i2, i3, i4, i5, -, -⟩ := h'
  obtain ⟨l1, l2, l3, l4, l5, l6⟩ := hB.lim
  obtain ⟨m1, m2, m3, m4, m5, m6⟩ := hB'.lim
  exact ⟨dr, dr', h1.2.2.2.2.2.1, h5.1, i1.2.2.2.2.2.1, c_shift hfu h5 i5 hB.2.2.2.1 hB'.2.2.2.1 l1 l2 m1 m2 hB.z hB'.z⟩
section MEE
variable {fu : Nat} {A ro pa ea wa : Nat → Nat} {K T V N : Nat → Int32} {n np : Nat} {G : Nat → Pg} {ne : Nat} {ew : Nat → Nat} {eo es : Nat → Int32} {nw : Nat} {wp we : Nat → Nat} {wc : Nat → Int32} {wo : Nat → Option Nat} {W H : Nat} {X : Mem} {S : SM}
theorem x_meets {w : Nat} (hfu : 100 ≤ fu) (P : PrsX A ro pa np G X) (E : ExsX A ro pa ea ne ew eo es X) (Wk : WksX A ro pa ea wa nw wp we wc wo X) (pP : PrsP np G) (pE : ExsP np ne ew) (pW : WksP np ne nw G wp we wc wo) (hw : w < nw) : ∃ r, fX10_meetsExercise fu X (wa w) = some r ∧ TF r (MtG G ew eo es wp we w) := by
  obtain ⟨w1, w2, w3, w4, w5, w6, w7⟩ := Wk.2.2 w hw
  obtain ⟨q1, q2, -⟩ := pW.2.1 w hw
  obtain ⟨e1, e2, e3, e4, e5, e6⟩ := E.2.2 (we w) q2
  have q3 := pE.2 (we w) q2
  have g1 := (P.2 (wp w) q1).2
  have g2 := (P.2 (ew (we w)) q3).2
  obtain ⟨dr, dr', s1, s2, s3, s4⟩ := x_shift hfu g1 g2 (pP.2 _ q1) (pP.2 _ q3)
  obtain ⟨os, pa9, wa9, fo, dr9, ra, ua, oa, h1, h2, h3, h4, -⟩ := g1
  obtain ⟨os', pa', wa', fo', dr9', ra', ua', oa', i1, -⟩ := g2
  exact c_meets w2 w5 e2 w4 h1.1.1 h3 h1.1.len e5 e6 h4 e4 i1.1.1 s1 s2 s3 s4
theorem x_lay (hfu : 1000 ≤ fu) (hf : FreshM X) (B : BaseX A ro X) (P : PrsX A ro pa np G X) (E : ExsX A ro pa ea ne ew eo es X) (Wk : WksX A ro pa ea wa nw wp we wc wo X) (Wl : WalX A W H X) (pP : PrsP np G) (pE : ExsP np ne ew) (pW : WksP np ne nw G wp we wc wo) (pL : WalP W H) :
    ∃ X', fX11_layWall fu X (A 0) = some X' ∧ LWF (A 19) (fun b => ∃ i, i < nw ∧ b = wa i) X X' ∧ HngX W wa nw (layG W H G ew eo es wp we wc wo nw) X' := by
  have hL : LyX (A 0) (A 8) (A 5) (A 19) W H nw wa (fun i => pa (wp i)) (fun i => (mR X 505 (pa (wp i))).getD 0) (wdG G wp) (hgG G wp) wo wc X := by
    refine ⟨B.k 0 11 0 (by decide), Wk.1, B.r 1107 0 8 (by decide), B.k 8 26 24 (by decide), B.r 1104 0 5 (by decide), B.k 5 9 0 (by decide), B.r 900 5 19 (by decide), B.k 19 22 40 (by decide), Wl.1, Wl.2, fun i hi => ?_⟩
    obtain ⟨w1, w2, w3, w4, w5, w6, w7⟩ := Wk.2.2 i hi
    obtain ⟨q1, q2, -⟩ := pW.2.1 i hi
    have hB := pP.2 _ q1
    obtain ⟨l1, l2, l3, l4, l5, l6⟩ := hB.lim
    obtain ⟨os, pa9, wa9, fo, dr, ra, ua, oa, h1, h2, h3, h4, h5, -⟩ := (P.2 (wp i) q1).2
    have e : (mR X 505 (pa (wp i))).getD 0 = dr := by rw [h1.2.2.2.2.2.1]; rfl
    obtain ⟨c1, c2⟩ := dr_cells h5 hB.2.2.2.1 ⟨l3, l4⟩ (fun z => (hB.2.2.2.2.1 z).2)
    show aR X (A 8) i = some (wa i) ∧ mK X (wa i) = some (10, 0) ∧ mR X 1000 (wa i) = some (pa (wp i)) ∧ mK X (pa (wp i)) = some (5, 0) ∧ mR X 505 (pa (wp i)) = some ((mR X 505 (pa (wp i))).getD 0) ∧ mK X ((mR X 505 (pa (wp i))).getD 0) = some (2, 0) ∧ fX2_cellsWide X ((mR X 505 (pa (wp i))).getD 0) = some (nI (wdG G wp i)) ∧ fX2_cellsHigh X ((mR X 505 (pa (wp i))).getD 0) = some (nI (hgG G wp i)) ∧ mI X 1002 (wa i) = oW (wo i) ∧ mI X 1003 (wa i) = wc i
    rw [e]
    exact ⟨w1, w2, w4, h1.1.1, h1.2.2.2.2.2.1, h5.1, c1, c2, w6, w7⟩
  refine w_layWall (fu := fu) (Mt := MtG G ew eo es wp we) (by omega) pW.1 pL.2.1 pL.1 pL.2.2.2 (fun i hi => ?_) Wk.2.1 (fun i j hi e => ?_) hL (fun i X1 hi k => ?_)
  · obtain ⟨q1, -⟩ := pW.2.1 i hi
    obtain ⟨l1, l2, l3, l4, l5, l6⟩ := (pP.2 _ q1).lim
    unfold wdG hgG
    omega
  · have q := (pW.2.1 i hi).2.2
    rw [e] at q
    have := q.2.1
    have := pW.1
    omega
  · have kf := k.fm
    have hP : ∀ (L : List Nat), 19 ∉ L → 20 ∉ L → ∀ a, ro a ∈ L → ¬ (a = A 19 ∨ ∃ i, i < nw ∧ a = wa i) := by
      rintro L h1 h2 a ha (q | ⟨j, hj, q⟩)
      · rw [q, B.o 19 22 40 (by decide)] at ha
        exact h1 ha
      · rw [q, (Wk.2.2 j hj).2.2.1] at ha
        exact h2 ha
    exact x_meets (by omega) (P.fm B hf kf (fun _ _ => rfl) (hP _ (by decide) (by decide))) (E.fm B hf kf (fun _ _ => rfl) (hP _ (by decide) (by decide))) (Wk.lw k) pP pE pW hi
/-- the wall is laid anew: all else stays -/
theorem x_layR (hfu : 1000 ≤ fu) (hf : FreshM X) (B : BaseX A ro X) (D : DrfX A ro K T V N n X) (P : PrsX A ro pa np G X) (E : ExsX A ro pa ea ne ew eo es X) (Wk : WksX A ro pa ea wa nw wp we wc wo X) (Wl : WalX A W H X) (pP : PrsP np G) (pE : ExsP np ne ew) (pW : WksP np ne nw G wp we wc wo) (pL : WalP W H) :
    ∃ X', fX11_layWall fu X (A 0) = some X' ∧ LWF (A 19) (fun b => ∃ i, i < nw ∧ b = wa i) X X' ∧ RelX A ro pa ea wa K T V N n np G ne ew eo es nw wp we wc wo W H X' := by
  obtain ⟨X', z1, k, z3⟩ := x_lay hfu hf B P E Wk Wl pP pE pW pL
  have kf := k.fm
  have hP : ∀ (L : List Nat), 19 ∉ L → 20 ∉ L → ∀ a, ro a ∈ L → ¬ (a = A 19 ∨ ∃ i, i < nw ∧ a = wa i) := by
    rintro L h1 h2 a ha (q | ⟨j, hj, q⟩)
    · rw [q, B.o 19 22 40 (by decide)] at ha
      exact h1 ha
    · rw [q, (Wk.2.2 j hj).2.2.1] at ha
      exact h2 ha
  have B' : BaseX A ro X' := B.fm hf kf (RfK.of k.2.1) (fun _ _ => rfl) (B.2.2.fm hf (B.k 4 0 0 (by decide)) kf (fun _ _ => rfl) (hP [4] (by decide) (by decide) _ (by rw [B.o 4 0 0 (by decide)]; decide)))
  exact ⟨X', z1, k, B', D.fm B hf kf (fun _ _ => rfl) (hP _ (by decide) (by decide)), P.fm B hf kf (fun _ _ => rfl) (hP _ (by decide) (by decide)), E.fm B hf kf (fun _ _ => rfl) (hP _ (by decide) (by decide)), Wk.lw k, Wl.fm B hf kf (hP _ (by decide) (by decide)), z3⟩
/-! the reference -/
theorem s_alike {p q : Nat} (hfu : 300 ≤ fu) (P : PrsS np G S) (pP : PrsP np G) (hp : p < np) (hq : q < np) : ∃ r, fX12_alike fu S (nI p) (nI q) = some r ∧ TF r (AlG (G p) (G q)) := by
  have h30 := pP.1
  exact q_alike (by omega) (by omega) hfu (pP.2 p hp) (pP.2 q hq) (P.2 p hp).2.2.2.2 (P.2 q hq).2.2.2.2
theorem s_meets {w : Nat} (hfu : 300 ≤ fu) (P : PrsS np G S) (E : ExsS ne ew eo es S) (Wk : WksS nw wp we wc S) (pP : PrsP np G) (pE : ExsP np ne ew) (pW : WksP np ne nw G wp we wc wo) (hw : w < nw) : ∃ r, fX12_doesMeet fu S (nI w) = some r ∧ TF r (MtG G ew eo es wp we w) := by
  obtain ⟨w1, w2⟩ := Wk.2.1 w hw
  obtain ⟨q1, q2, -⟩ := pW.2.1 w hw
  obtain ⟨e1, e2, e3⟩ := E.2 (we w) q2
  have q3 := pE.2 (we w) q2
  obtain ⟨p1, p2, p3, p4, p5⟩ := P.2 (wp w) q1
  have b1 := pW.1
  have b2 := pE.1
  have b3 := pP.1
  exact q_doesMeet (by omega) (by omega) (by omega) w1 w2 p3 p1.1 e2 e3 p4 e1 (s_alike hfu P pP q1 q3)
theorem s_form {p q : Nat} (hfu : 300 ≤ fu) (P : PrsS np G S) (pP : PrsP np G) (hp : p < np) (hq : q < np) : ∃ r S', fX12_oneForm fu S (nI p) (nI q) = some (r, S') ∧ LF S S' ∧ TF r (FoG (G p) (G q)) := by
  have h30 := pP.1
  exact q_oneForm (by omega) (by omega) (pP.2 p hp).1 (pP.2 q hq).1 (by omega) (P.2 p hp).1 (P.2 q hq).1
theorem s_copied {w : Nat} (hfu : 300 ≤ fu) (P : PrsS np G S) (Wk : WksS nw wp we wc S) (pP : PrsP np G) (pE : ExsP np ne ew) (pW : WksP np ne nw G wp we wc wo) (hw : w < nw) : ∃ S', fX12_copied fu S (nI w) = some (oW (wo w), S') ∧ LF S S' := by
  have b1 := pW.1
  have b2 := pE.1
  have b3 := pP.1
  obtain ⟨o, S', z1, z2, z3⟩ := r_copied (fu := fu) (w := w) (wp := wp) (we := we) (pu := fun j => pgu (G (wp j))) (Fo := fun j => FoG (G (wp j)) (G (wp w))) (S := S) (by omega) (by omega) (fun j hj => by
    obtain ⟨w1, w2⟩ := Wk.2.1 j (by omega)
    obtain ⟨q1, q2, -⟩ := pW.2.1 j (by omega)
    exact ⟨w1, w2, by omega, by omega, (P.2 _ q1).2.1⟩) (fun j S1 hj k => by
    obtain ⟨q1, -⟩ := pW.2.1 j (by omega)
    obtain ⟨q2, -⟩ := pW.2.1 w hw
    exact s_form hfu (P.sk k.sk) pP q1 q2)
  have e : o = wo w := OrgP_un (cp := cpG G wp we w) z3 (pW.2.1 w hw).2.2
  rw [e] at z1
  exact ⟨S', z1, z2⟩
theorem s_box {p : Nat} (hfu : 300 ≤ fu) (P : PrsS np G S) (pP : PrsP np G) (hp : p < np) : fX12_greatestOf fu S (nI p) 1 = some (nI (pgc (G p))) ∧ fX12_leastOf fu S (nI p) 1 = some (nI (pga (G p))) ∧ fX12_greatestOf fu S (nI p) 0 = some (nI (pgd (G p))) ∧ fX12_leastOf fu S (nI p) 0 = some (nI (pgb (G p))) := by
  have h30 := pP.1
  have hB := pP.2 p hp
  obtain ⟨d1, d2, d3⟩ := (P.2 p hp).2.2.2.2
  obtain ⟨e1, e2⟩ := q_least (fu := fu) (p := p) (by omega) hfu d2 d3 hB.2.2.2.1 d1 (fun z => ⟨(hB.2.2.2.2.1 z).1, (hB.2.2.2.2.1 z).2.1, (hB.2.2.2.2.1 z).2.2.1⟩) hB.2.2.2.2.2
  obtain ⟨e3, e4⟩ := q_great (fu := fu) (p := p) (k := pgk (G p)) (by omega) hfu d2 d3 (fun z => ⟨(hB.2.2.2.2.1 z).1, (hB.2.2.2.2.1 z).2.2.2⟩) hB.2.2.2.2.2
  exact ⟨e3, e1, e4, e2⟩
theorem s_hangs (hfu : 5000 ≤ fu) (P : PrsS np G S) (E : ExsS ne ew eo es S) (Wk : WksS nw wp we wc S) (Wl : WalS W H S) (pP : PrsP np G) (pE : ExsP np ne ew) (pW : WksP np ne nw G wp we wc wo) (pL : WalP W H) : ∃ S', fX12_hangsAll fu S = some S' ∧ HF S S' ∧ ∀ j, j < nw → ar S' 30 j = plc W (layG W H G ew eo es wp we wc wo nw j) := by
  have b1 := pW.1
  refine r_hangsAll (fu := fu) (wp := wp) (a := fun i => pga (G (wp i))) (b := fun i => pgb (G (wp i))) (c := fun i => pgc (G (wp i))) (d := fun i => pgd (G (wp i))) (Mt := MtG G ew eo es wp we) hfu b1 pL.2.1 pL.1 pL.2.2.2 (fun i hi => ?_) Wl.1 Wl.2 Wk.1 (fun i j hi e => ?_) (fun i hi => ⟨(Wk.2.1 i hi).1, Wk.2.2 i (by omega)⟩) (fun i S1 hi k => s_meets (by omega) (P.sk k.sk) (E.sk k.sk) (Wk.sk k.sk) pP pE pW hi) (fun i S1 hi k => s_copied (by omega) (P.sk k.sk) (Wk.sk k.sk) pP pE pW hi) (fun i S1 hi k => s_box (by omega) (P.sk k.sk) pP (pW.2.1 i hi).1)
  · obtain ⟨l1, l2, l3, l4, l5, l6⟩ := (pP.2 _ (pW.2.1 i hi).1).lim
    exact ⟨l3, l4, l5, l6⟩
  · have q := (pW.2.1 i hi).2.2
    rw [e] at q
    have := q.2.1
    omega
end MEE
