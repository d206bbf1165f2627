/-! THE STATE OF BOTH SIDES: what is kept of programs, exercises, works, the wall -/
abbrev Pg : Type := (Nat → Int32) × (Nat → Int32) × (Nat → Int32) × (Nat → Int32) × Nat × Int32 × Nat × Nat × Nat × Nat × Nat
def pgK (g : Pg) : Nat → Int32 := g.1
def pgT (g : Pg) : Nat → Int32 := g.2.1
def pgV (g : Pg) : Nat → Int32 := g.2.2.1
def pgN (g : Pg) : Nat → Int32 := g.2.2.2.1
def pgn (g : Pg) : Nat := g.2.2.2.2.1
def pgu (g : Pg) : Int32 := g.2.2.2.2.2.1
def pgk (g : Pg) : Nat := g.2.2.2.2.2.2.1
def pga (g : Pg) : Nat := g.2.2.2.2.2.2.2.1
def pgb (g : Pg) : Nat := g.2.2.2.2.2.2.2.2.1
def pgc (g : Pg) : Nat := g.2.2.2.2.2.2.2.2.2.1
def pgd (g : Pg) : Nat := g.2.2.2.2.2.2.2.2.2.2
def pgF (g : Pg) : Cor := finB (pgK g) (pgT g) (pgV g) (pgN g) (pgn g)
def GB (g : Pg) : Prop := PgB (pgK g) (pgT g) (pgV g) (pgN g) (pgn g) (pgk g) (pga g) (pgb g) (pgc g) (pgd g)
def AlG (g g' : Pg) : Prop := AlP (pgk g) (pgk g') (cR (pgF g)) (cU (pgF g)) (cR (pgF g')) (cU (pgF g')) (pga g) (pgb g) (pga g') (pgb g')
def FoG (g g' : Pg) : Prop := pgn g = pgn g' ∧ ∀ i, i < pgn g → cdR (pgK g) (pgT g) (pgV g) (pgN g) i = cdR (pgK g') (pgT g') (pgV g') (pgN g') i
/-- what a call leaves of the objects' references -/
def RfK (X X1 : Mem) : Prop := ∀ a, a < mZ X → ∀ k, 2 ≤ k → k ≠ 704 → mR X1 k a = mR X k a
theorem RfK.of {X X1 : Mem} (h : mR X1 = mR X) : RfK X X1 := fun _ _ _ _ _ => by rw [h]
def bK : List (Nat × Nat × Nat) := [(0, 11, 0), (1, 1, 0), (2, 7, 0), (3, 2, 0), (4, 0, 0), (5, 9, 0), (6, 24, 30), (7, 25, 6), (8, 26, 24), (9, 23, 30), (10, 21, 4), (11, 8, 0), (12, 20, 4), (13, 20, 270), (14, 20, 8), (15, 20, 16), (16, 20, 16), (19, 22, 40)]
def bR : List (Nat × Nat × Nat) := [(1100, 0, 1), (1101, 0, 2), (1102, 0, 3), (1103, 0, 4), (1104, 0, 5), (1105, 0, 6), (1106, 0, 7), (1107, 0, 8), (100, 1, 9), (101, 1, 10), (700, 2, 11), (701, 2, 12), (702, 2, 13), (703, 2, 14), (200, 3, 15), (201, 3, 16), (900, 5, 19)]
def DskX (A ro : Nat → Nat) (X : Mem) : Prop := ∃ d1 d2, mR X 0 (A 4) = some d1 ∧ mR X 1 (A 4) = some d2 ∧ mK X d1 = some (20, 31) ∧ mK X d2 = some (20, 31) ∧ d1 ≠ d2 ∧ ro d1 = 17 ∧ ro d2 = 17
def BaseX (A ro : Nat → Nat) (X : Mem) : Prop := (∀ q ∈ bK, mK X (A q.1) = some (q.2.1, q.2.2) ∧ ro (A q.1) = q.1) ∧ (∀ q ∈ bR, mR X q.1 (A q.2.1) = some (A q.2.2)) ∧ DskX A ro X
theorem BaseX.k {A ro : Nat → Nat} {X : Mem} (h : BaseX A ro X) (i c n : Nat) (hq : (i, c, n) ∈ bK) : mK X (A i) = some (c, n) := (h.1 (i, c, n) hq).1
theorem BaseX.o {A ro : Nat → Nat} {X : Mem} (h : BaseX A ro X) (i c n : Nat) (hq : (i, c, n) ∈ bK) : ro (A i) = i := (h.1 (i, c, n) hq).2
theorem BaseX.r {A ro : Nat → Nat} {X : Mem} (h : BaseX A ro X) (k i j : Nat) (hq : (k, i, j) ∈ bR) : mR X k (A i) = some (A j) := h.2.1 (k, i, j) hq
theorem bR_ok : ∀ q ∈ bR, 2 ≤ q.1 ∧ q.1 ≠ 704 ∧ ∃ p ∈ bK, p.1 = q.2.1 := by decide
theorem DskX.fm {P : Nat → Prop} {A ro ro' : Nat → Nat} {X X1 : Mem} (h : DskX A ro X) (hf : FreshM X) (h4 : mK X (A 4) = some (0, 0)) (k : Fm P X X1) (hro : ∀ a, a < mZ X → ro' a = ro a) (hP : ¬ P (A 4)) : DskX A ro' X1 := by
  obtain ⟨d1, d2, e1, e2, e3, e4, e5, e6, e7⟩ := h
  exact ⟨d1, d2, by rw [k.r hf h4 hP]; exact e1, by rw [k.r hf h4 hP]; exact e2, k.k hf e3, k.k hf e4, e5, by rw [hro _ (hf.lt e3)]; exact e6, by rw [hro _ (hf.lt e4)]; exact e7⟩
theorem BaseX.fm {P : Nat → Prop} {A ro ro' : Nat → Nat} {X X1 : Mem} (h : BaseX A ro X) (hf : FreshM X) (k : Fm P X X1) (r : RfK X X1) (hro : ∀ a, a < mZ X → ro' a = ro a) (hP : DskX A ro' X1) : BaseX A ro' X1 := by
  refine ⟨fun q hq => ?_, fun q hq => ?_, hP⟩
  · obtain ⟨h1, h2⟩ := h.1 q hq
    exact ⟨k.k hf h1, by rw [hro _ (hf.lt h1)]; exact h2⟩
  · obtain ⟨c1, c2, p, c3, c4⟩ := bR_ok q hq
    have h1 := (h.1 p c3).1
    rw [c4] at h1
    rw [r _ (hf.lt h1) _ c1 c2]
    exact h.2.1 q hq
/-! the draft -/
def WdP (K T : Nat → Int32) (n t : Nat) : Prop := ∃ i, i < n ∧ K i = 6 ∧ T i = nI t
def DrfX (A ro : Nat → Nat) (K T V N : Nat → Int32) (n : Nat) (X : Mem) : Prop := ∃ oa, DG (A 1) (A 9) oa K T V N n X ∧ (∀ i, i < n → ro (oa i) = 50) ∧ mI X 103 (A 1) = nI (br K n).length ∧ ∀ t, t < 4 → TF (aI X (A 10) t) (WdP K T n t)
theorem DrfX.fm {P : Nat → Prop} {A ro ro' : Nat → Nat} {K T V N : Nat → Int32} {n : Nat} {X X1 : Mem} (h : DrfX A ro K T V N n X) (B : BaseX A ro X) (hf : FreshM X) (k : Fm P X X1) (hro : ∀ a, a < mZ X → ro' a = ro a) (hP : ∀ a, ro a ∈ [1, 9, 10, 50] → ¬ P a) : DrfX A ro' K T V N n X1 := by
  obtain ⟨oa, h1, h2, h3, h4⟩ := h
  have p1 : ¬ P (A 1) := hP _ (by rw [B.o 1 1 0 (by decide)]; decide)
  have p9 : ¬ P (A 9) := hP _ (by rw [B.o 9 23 30 (by decide)]; decide)
  have p10 : ¬ P (A 10) := hP _ (by rw [B.o 10 21 4 (by decide)]; decide)
  refine ⟨oa, h1.fm hf k p1 p9 (fun i hi => hP _ (by rw [h2 i hi]; decide)), fun i hi => by rw [hro _ (hf.lt (h1.2.2.2.2 i hi).2.1)]; exact h2 i hi, by rw [k.i hf h1.1 p1 (by omega)]; exact h3, fun t ht => by rw [k.ai hf (B.k 10 21 4 (by decide)) p10]; exact h4 t ht⟩
/-! programs -/
def PrgX (ro : Nat → Nat) (a : Nat) (g : Pg) (X : Mem) : Prop := ∃ os pa wa fo dr ra ua oa, PgA a os pa wa fo dr ra ua oa (pgK g) (pgT g) (pgV g) (pgN g) (pgn g) X ∧ mI X 500 a = pgu g ∧ mI X 506 a = cF (pgF g) ∧ mI X 507 a = nI (cC (pgF g)) ∧ DrA dr ra ua (pgk g) (pga g) (pgb g) (pgc g) (pgd g) (cR (pgF g)) (cU (pgF g)) X ∧ (ro a = 50 ∧ ro os = 50 ∧ ro pa = 50 ∧ ro wa = 50 ∧ ro fo = 50 ∧ ro dr = 50 ∧ ro ra = 50 ∧ ro ua = 50) ∧ (∀ i, i < pgn g → ro (oa i) = 50) ∧ pa ≠ wa
theorem PgA.fm {P : Nat → Prop} {pr os pa wa fo dr ra ua n : Nat} {oa : Nat → Nat} {K T V N : Nat → Int32} {X X1 : Mem} (h : PgA pr os pa wa fo dr ra ua oa K T V N n X) (hf : FreshM X) (k : Fm P X X1) (p1 : ¬ P pr) (p2 : ¬ P os) (p3 : ¬ P pa) (p4 : ¬ P wa) (p5 : ¬ P fo) (p6 : ¬ P dr) (p9 : ∀ i, i < n → ¬ P (oa i)) : PgA pr os pa wa fo dr ra ua oa K T V N n X1 := by
  obtain ⟨a1, a2, a3, a4, a5, a6, a7, a8, a9, a10, a11, a12, a13, a14⟩ := h
  have kpr := a1.1
  have kpa := a1.2.2.2.2.1
  exact ⟨a1.fm hf k p1 p2 p9, by rw [k.r hf kpr p1]; exact a2, k.k hf a3, by rw [k.r hf kpr p1]; exact a4, k.k hf a5, by rw [k.r hf kpr p1]; exact a6, k.k hf a7, by rw [k.r hf a7 p6]; exact a8, k.k hf a9, by rw [k.r hf a7 p6]; exact a10, k.k hf a11, fun o ho hk => by rw [k.ai hf kpa p3]; exact a12 o ho hk, fun t ht => by rw [k.ai hf a3 p4]; exact a13 t ht, fun j hj => by rw [k.ai hf a5 p5]; exact a14 j hj⟩
theorem DrA.fm {P : Nat → Prop} {dr ra ua k a b c d : Nat} {R U : Nat → Int32} {X X1 : Mem} (h : DrA dr ra ua k a b c d R U X) (hf : FreshM X) (q : Fm P X X1) (p1 : ¬ P dr) (p2 : ¬ P ra) (p3 : ¬ P ua) : DrA dr ra ua k a b c d R U X1 := by
  obtain ⟨a1, a2, a3, a4, a5, a6, a7, a8, a9⟩ := h
  refine ⟨q.k hf a1, by rw [q.r hf a1 p1]; exact a2, by rw [q.r hf a1 p1]; exact a3, q.k hf a4, q.k hf a5, by rw [q.i hf a1 p1 (by omega)]; exact a6, fun hk => ?_, fun j hj => by rw [q.ai hf a4 p2]; exact a8 j hj, fun j hj => by rw [q.ai hf a5 p3]; exact a9 j hj⟩
  rw [q.i hf a1 p1 (by omega), q.i hf a1 p1 (by omega), q.i hf a1 p1 (by omega), q.i hf a1 p1 (by omega)]
  exact a7 hk
theorem PrgX.fm {P : Nat → Prop} {ro ro' : Nat → Nat} {a : Nat} {g : Pg} {X X1 : Mem} (h : PrgX ro a g X) (hf : FreshM X) (k : Fm P X X1) (hro : ∀ a, a < mZ X → ro' a = ro a) (hP : ∀ a, ro a = 50 → ¬ P a) : PrgX ro' a g X1 := by
  obtain ⟨os, pa, wa, fo, dr, ra, ua, oa, h1, h2, h3, h4, h5, ⟨r1, r2, r3, r4, r5, r6, r7, r8⟩, h7, h8⟩ := h
  have kpr := h1.1.1
  have e := hP _ r1
  refine ⟨os, pa, wa, fo, dr, ra, ua, oa, h1.fm hf k (hP _ r1) (hP _ r2) (hP _ r3) (hP _ r4) (hP _ r5) (hP _ r6) (fun i hi => hP _ (h7 i hi)), by rw [k.i hf kpr e (by omega)]; exact h2, by rw [k.i hf kpr e (by omega)]; exact h3, by rw [k.i hf kpr e (by omega)]; exact h4, h5.fm hf k (hP _ r6) (hP _ r7) (hP _ r8), ⟨?_, ?_, ?_, ?_, ?_, ?_, ?_, ?_⟩, fun i hi => ?_, h8⟩
  · rw [hro _ (hf.lt kpr)]; exact r1
  · rw [hro _ (hf.lt h1.1.2.2.2.1)]; exact r2
  · rw [hro _ (hf.lt h1.1.2.2.2.2.1)]; exact r3
  · rw [hro _ (hf.lt h1.2.2.1)]; exact r4
  · rw [hro _ (hf.lt h1.2.2.2.2.1)]; exact r5
  · rw [hro _ (hf.lt h5.1)]; exact r6
  · rw [hro _ (hf.lt h5.2.2.2.1)]; exact r7
  · rw [hro _ (hf.lt h5.2.2.2.2.1)]; exact r8
  · rw [hro _ (hf.lt (h1.1.2.2.2.2.2 i hi).2.1)]; exact h7 i hi
def PrsX (A ro pa : Nat → Nat) (np : Nat) (G : Nat → Pg) (X : Mem) : Prop := mI X 1108 (A 0) = nI np ∧ ∀ p, p < np → aR X (A 6) p = some (pa p) ∧ PrgX ro (pa p) (G p) X
theorem PrsX.fm {P : Nat → Prop} {A ro ro' pa : Nat → Nat} {np : Nat} {G : Nat → Pg} {X X1 : Mem} (h : PrsX A ro pa np G X) (B : BaseX A ro X) (hf : FreshM X) (k : Fm P X X1) (hro : ∀ a, a < mZ X → ro' a = ro a) (hP : ∀ a, ro a ∈ [0, 6, 50] → ¬ P a) : PrsX A ro' pa np G X1 := by
  refine ⟨?_, fun p hp => ⟨?_, (h.2 p hp).2.fm hf k hro (fun a ha => hP a (by rw [ha]; decide))⟩⟩
  · rw [k.i hf (B.k 0 11 0 (by decide)) (hP _ (by rw [B.o 0 11 0 (by decide)]; decide)) (by omega)]; exact h.1
  · rw [k.ar hf (B.k 6 24 30 (by decide)) (hP _ (by rw [B.o 6 24 30 (by decide)]; decide))]; exact (h.2 p hp).1
/-! exercises, works, the wall -/
def ExsX (A ro pa ea : Nat → Nat) (ne : Nat) (ew : Nat → Nat) (eo es : Nat → Int32) (X : Mem) : Prop := mI X 1109 (A 0) = nI ne ∧ (∀ i j, i < ne → j < ne → ea i = ea j → i = j) ∧ ∀ e, e < ne → aR X (A 7) e = some (ea e) ∧ mK X (ea e) = some (3, 0) ∧ ro (ea e) = 21 ∧ mR X 300 (ea e) = some (pa (ew e)) ∧ mI X 301 (ea e) = eo e ∧ mI X 302 (ea e) = es e
theorem ExsX.fm {P : Nat → Prop} {A ro ro' pa ea : Nat → Nat} {ne : Nat} {ew : Nat → Nat} {eo es : Nat → Int32} {X X1 : Mem} (h : ExsX A ro pa ea ne ew eo es X) (B : BaseX A ro X) (hf : FreshM X) (k : Fm P X X1) (hro : ∀ a, a < mZ X → ro' a = ro a) (hP : ∀ a, ro a ∈ [0, 7, 21] → ¬ P a) : ExsX A ro' pa ea ne ew eo es X1 := by
  refine ⟨?_, h.2.1, fun e he => ?_⟩
  · rw [k.i hf (B.k 0 11 0 (by decide)) (hP _ (by rw [B.o 0 11 0 (by decide)]; decide)) (by omega)]; exact h.1
  · obtain ⟨a1, a2, a3, a4, a5, a6⟩ := h.2.2 e he
    have p := hP (ea e) (by rw [a3]; decide)
    exact ⟨by rw [k.ar hf (B.k 7 25 6 (by decide)) (hP _ (by rw [B.o 7 25 6 (by decide)]; decide))]; exact a1, k.k hf a2, by rw [hro _ (hf.lt a2)]; exact a3, by rw [k.r hf a2 p]; exact a4, by rw [k.i hf a2 p (by omega)]; exact a5, by rw [k.i hf a2 p (by omega)]; exact a6⟩
def WksX (A ro pa ea wa : Nat → Nat) (nw : Nat) (wp we : Nat → Nat) (wc : Nat → Int32) (wo : Nat → Option Nat) (X : Mem) : Prop := mI X 1110 (A 0) = nI nw ∧ (∀ i j, i < nw → j < nw → wa i = wa j → i = j) ∧ ∀ w, w < nw → aR X (A 8) w = some (wa w) ∧ mK X (wa w) = some (10, 0) ∧ ro (wa w) = 20 ∧ mR X 1000 (wa w) = some (pa (wp w)) ∧ mR X 1001 (wa w) = some (ea (we w)) ∧ mI X 1002 (wa w) = oW (wo w) ∧ mI X 1003 (wa w) = wc w
theorem WksX.fm {P : Nat → Prop} {A ro ro' pa ea wa : Nat → Nat} {nw : Nat} {wp we : Nat → Nat} {wc : Nat → Int32} {wo : Nat → Option Nat} {X X1 : Mem} (h : WksX A ro pa ea wa nw wp we wc wo X) (B : BaseX A ro X) (hf : FreshM X) (k : Fm P X X1) (hro : ∀ a, a < mZ X → ro' a = ro a) (hP : ∀ a, ro a ∈ [0, 8, 20] → ¬ P a) : WksX A ro' pa ea wa nw wp we wc wo X1 := by
  refine ⟨?_, h.2.1, fun w hw => ?_⟩
  · rw [k.i hf (B.k 0 11 0 (by decide)) (hP _ (by rw [B.o 0 11 0 (by decide)]; decide)) (by omega)]; exact h.1
  · obtain ⟨a1, a2, a3, a4, a5, a6, a7⟩ := h.2.2 w hw
    have p := hP (wa w) (by rw [a3]; decide)
    exact ⟨by rw [k.ar hf (B.k 8 26 24 (by decide)) (hP _ (by rw [B.o 8 26 24 (by decide)]; decide))]; exact a1, k.k hf a2, by rw [hro _ (hf.lt a2)]; exact a3, by rw [k.r hf a2 p]; exact a4, by rw [k.r hf a2 p]; exact a5, by rw [k.i hf a2 p (by omega)]; exact a6, by rw [k.i hf a2 p (by omega)]; exact a7⟩
theorem WksX.lw {ta : Nat} {Q : Nat → Prop} {A ro pa ea wa : Nat → Nat} {nw : Nat} {wp we : Nat → Nat} {wc : Nat → Int32} {wo : Nat → Option Nat} {X X1 : Mem} (h : WksX A ro pa ea wa nw wp we wc wo X) (k : LWF ta Q X X1) : WksX A ro pa ea wa nw wp we wc wo X1 := by
  obtain ⟨k1, k2, k3, k4, k5, k6, k7⟩ := k
  refine ⟨by rw [k7 _ _ (Or.inl (by omega))]; exact h.1, h.2.1, fun w hw => ?_⟩
  rw [k1, k2, k4, k7 1002 _ (Or.inl (by omega)), k7 1003 _ (Or.inl (by omega))]
  exact h.2.2 w hw
theorem LWF.fm {ta : Nat} {Q : Nat → Prop} {X X1 : Mem} (h : LWF ta Q X X1) : Fm (fun a => a = ta ∨ Q a) X X1 := ⟨by rw [h.2.2.2.2.1]; exact Nat.le_refl _, fun a _ => by rw [h.1], fun a _ hp => ⟨fun k _ => h.2.2.2.2.2.2 k a (Or.inr (fun q => hp (Or.inr q))), fun k => by rw [h.2.1], by rw [h.2.2.1], by rw [h.2.2.2.1], h.2.2.2.2.2.1 a (fun q => hp (Or.inl q))⟩⟩
def WalX (A : Nat → Nat) (W H : Nat) (X : Mem) : Prop := mI X 901 (A 5) = nI W ∧ mI X 902 (A 5) = nI H
theorem WalX.fm {P : Nat → Prop} {A ro : Nat → Nat} {W H : Nat} {X X1 : Mem} (h : WalX A W H X) (B : BaseX A ro X) (hf : FreshM X) (k : Fm P X X1) (hP : ∀ a, ro a ∈ [5] → ¬ P a) : WalX A W H X1 := by
  have p := hP (A 5) (by rw [B.o 5 9 0 (by decide)]; decide)
  have h5 := B.k 5 9 0 (by decide)
  exact ⟨by rw [k.i hf h5 p (by omega)]; exact h.1, by rw [k.i hf h5 p (by omega)]; exact h.2⟩
def HngX (W : Nat) (wa : Nat → Nat) (nw : Nat) (o : Nat → Option Nat) (X : Mem) : Prop := ∀ w, w < nw → HgW W (o w) X (wa w)
theorem HgW.cg {W : Nat} {o : Option Nat} {X X1 : Mem} {a : Nat} (h : HgW W o X a) (h1 : mI X1 1004 a = mI X 1004 a) (h2 : mI X1 1005 a = mI X 1005 a) (h3 : mI X1 1006 a = mI X 1006 a) : HgW W o X1 a := by
  unfold HgW at h ⊢
  rw [h1, h2, h3]
  exact h
theorem HngX.fm {P : Nat → Prop} {A ro pa ea wa : Nat → Nat} {W nw : Nat} {wp we : Nat → Nat} {wc : Nat → Int32} {wo o : Nat → Option Nat} {X X1 : Mem} (h : HngX W wa nw o X) (Wk : WksX A ro pa ea wa nw wp we wc wo X) (hf : FreshM X) (k : Fm P X X1) (hP : ∀ a, ro a ∈ [20] → ¬ P a) : HngX W wa nw o X1 := by
  intro w hw
  obtain ⟨a1, a2, a3, -⟩ := Wk.2.2 w hw
  have p := hP (wa w) (by rw [a3]; decide)
  exact (h w hw).cg (k.i hf a2 p (by omega)) (k.i hf a2 p (by omega)) (k.i hf a2 p (by omega))
/-! what the reference's state says -/
def DrfS (K T V N : Nat → Int32) (n : Nat) (S : SM) : Prop := sc S 1 = nI n ∧ sc S 2 = nI (br K n).length ∧ (∀ t, t < 4 → TF (bit1 (sc S 3) (nI t)) (WdP K T n t)) ∧ ∀ i, i < n → ar S 0 i = K i ∧ ar S 1 i = T i ∧ ar S 2 i = V i ∧ ar S 3 i = N i
def PrsS (np : Nat) (G : Nat → Pg) (S : SM) : Prop := sc S 8 = nI np ∧ ∀ p, p < np → PD p (pgn (G p)) (pgK (G p)) (pgT (G p)) (pgV (G p)) (pgN (G p)) S ∧ ar S 4 p = pgu (G p) ∧ ar S 10 p = cF (pgF (G p)) ∧ ar S 11 p = nI (cC (pgF (G p))) ∧ PDr p (pgk (G p)) (cR (pgF (G p))) (cU (pgF (G p))) S
def ExsS (ne : Nat) (ew : Nat → Nat) (eo es : Nat → Int32) (S : SM) : Prop := sc S 37 = nI ne ∧ ∀ e, e < ne → ar S 23 e = nI (ew e) ∧ ar S 24 e = eo e ∧ ar S 25 e = es e
def WksS (nw : Nat) (wp we : Nat → Nat) (wc : Nat → Int32) (S : SM) : Prop := sc S 41 = nI nw ∧ (∀ w, w < nw → ar S 26 w = nI (wp w) ∧ ar S 27 w = nI (we w)) ∧ ∀ w, w < 24 → ar S 28 w = wc w
def WalS (W H : Nat) (S : SM) : Prop := sc S 45 = nI W ∧ sc S 46 = nI H
/-- what a call leaves of the reference's state, as far as it lasts -/
def SK (S S' : SM) : Prop := (∀ k, k = 1 ∨ k = 2 ∨ k = 3 ∨ k = 8 ∨ k = 37 ∨ k = 41 ∨ k = 45 ∨ k = 46 → sc S' k = sc S k) ∧ (∀ r, r < 15 ∨ (23 ≤ r ∧ r ≤ 28) → ar S' r = ar S r) ∧ ar S' 18 0 = ar S 18 0
theorem SK.rfl9 {S : SM} : SK S S := ⟨fun _ _ => rfl, fun _ _ => rfl, rfl⟩
theorem SK.trans {a b c : SM} (h : SK a b) (k : SK b c) : SK a c := ⟨fun i hi => (k.1 i hi).trans (h.1 i hi), fun r hr => (k.2.1 r hr).trans (h.2.1 r hr), k.2.2.trans h.2.2⟩
theorem SK.t {S : SM} {v : Int32} : SK S (uc S 0 v) := ⟨fun i hi => if_neg (by omega), fun _ _ => rfl, rfl⟩
theorem HF.sk {S S' : SM} (h : HF S S') : SK S S' := ⟨fun k _ => by rw [h.1], fun r hr => h.2 r (by omega) (by omega) (by omega) (by omega), by rw [h.2 18 (by omega) (by omega) (by omega) (by omega)]⟩
theorem LG.sk {S S' : SM} (h : LG S S') : SK S S' := ⟨fun k _ => by rw [h.1], fun r hr => h.2.1 r (by omega) (by omega) (by omega) (by omega), by rw [h.2.1 18 (by omega) (by omega) (by omega) (by omega)]⟩
theorem LF.sk {S S' : SM} (h : LF S S') : SK S S' := h.hf.sk
section RSK
variable {S S' : SM}
theorem DrfS.sk {K T V N : Nat → Int32} {n : Nat} (h : DrfS K T V N n S) (k : SK S S') : DrfS K T V N n S' := by
  unfold DrfS
  rw [k.1 1 (by omega), k.1 2 (by omega), k.1 3 (by omega), k.2.1 0 (by omega), k.2.1 1 (by omega), k.2.1 2 (by omega), k.2.1 3 (by omega)]
  exact h
theorem PrsS.sk {np : Nat} {G : Nat → Pg} (h : PrsS np G S) (k : SK S S') : PrsS np G S' := by
  unfold PrsS PD PDr
  rw [k.1 8 (by omega), k.2.1 4 (by omega), k.2.1 5 (by omega), k.2.1 6 (by omega), k.2.1 7 (by omega), k.2.1 8 (by omega), k.2.1 9 (by omega), k.2.1 10 (by omega), k.2.1 11 (by omega), k.2.1 12 (by omega), k.2.1 13 (by omega), k.2.1 14 (by omega)]
  exact h
theorem ExsS.sk {ne : Nat} {ew : Nat → Nat} {eo es : Nat → Int32} (h : ExsS ne ew eo es S) (k : SK S S') : ExsS ne ew eo es S' := by
  unfold ExsS
  rw [k.1 37 (by omega), k.2.1 23 (by omega), k.2.1 24 (by omega), k.2.1 25 (by omega)]
  exact h
theorem WksS.sk {nw : Nat} {wp we : Nat → Nat} {wc : Nat → Int32} (h : WksS nw wp we wc S) (k : SK S S') : WksS nw wp we wc S' := by
  unfold WksS
  rw [k.1 41 (by omega), k.2.1 26 (by omega), k.2.1 27 (by omega), k.2.1 28 (by omega)]
  exact h
theorem WalS.sk {W H : Nat} (h : WalS W H S) (k : SK S S') : WalS W H S' := by
  unfold WalS
  rw [k.1 45 (by omega), k.1 46 (by omega)]
  exact h
end RSK
/-! what holds of the numbers alone -/
def DrfP (K T V N : Nat → Int32) (n : Nat) : Prop := n ≤ 30 ∧ VD K n ∧ (∀ i, i < n → 0 ≤ K i ∧ K i ≤ 8) ∧ (∀ i, i < n → 0 ≤ T i ∧ T i ≤ 3) ∧ (∀ i, i < n → (N i = 0 ∧ -99 ≤ V i ∧ V i ≤ 99) ∨ (N i = 1 ∧ 0 ≤ V i ∧ V i ≤ 3)) ∧ (∀ i j, i < n → j < n → K i = 6 → K j = 6 → T i = T j → i = j)
def PrsP (np : Nat) (G : Nat → Pg) : Prop := np ≤ 30 ∧ ∀ p, p < np → GB (G p)
def ExsP (np ne : Nat) (ew : Nat → Nat) : Prop := ne ≤ 6 ∧ ∀ e, e < ne → ew e < np
def cpG (G : Nat → Pg) (wp we : Nat → Nat) (w j : Nat) : Prop := we j = we w ∧ pgu (G (wp j)) ≠ pgu (G (wp w)) ∧ FoG (G (wp j)) (G (wp w))
def WksP (np ne nw : Nat) (G : Nat → Pg) (wp we : Nat → Nat) (wc : Nat → Int32) (wo : Nat → Option Nat) : Prop := nw ≤ 24 ∧ (∀ w, w < nw → wp w < np ∧ we w < ne ∧ OrgP (cpG G wp we w) 0 w (wo w)) ∧ (∀ w, w < 24 → wc w = 0 ∨ wc w = 1) ∧ ∀ w, nw ≤ w → w < 24 → wc w = 0
def WalP (W H : Nat) : Prop := 0 < W ∧ W ≤ 40 ∧ 0 < H ∧ H ≤ 40
def MtG (G : Nat → Pg) (ew : Nat → Nat) (eo es : Nat → Int32) (wp we : Nat → Nat) (w : Nat) : Prop := cF (pgF (G (wp w))) = 0 ∧ nI (pgn (G (wp w))) ≤ eo (we w) ∧ nI (cC (pgF (G (wp w)))) ≤ es (we w) ∧ AlG (G (wp w)) (G (ew (we w)))
def okG (G : Nat → Pg) (ew : Nat → Nat) (eo es : Nat → Int32) (wp we : Nat → Nat) (wc : Nat → Int32) (wo : Nat → Option Nat) (w : Nat) : Prop := MtG G ew eo es wp we w ∧ ¬ (wo w ≠ none ∧ wc w = 0)
def wdG (G : Nat → Pg) (wp : Nat → Nat) (w : Nat) : Nat := pgc (G (wp w)) - pga (G (wp w)) + 1
def hgG (G : Nat → Pg) (wp : Nat → Nat) (w : Nat) : Nat := pgd (G (wp w)) - pgb (G (wp w)) + 1
noncomputable def layG (W H : Nat) (G : Nat → Pg) (ew : Nat → Nat) (eo es : Nat → Int32) (wp we : Nat → Nat) (wc : Nat → Int32) (wo : Nat → Option Nat) (nw : Nat) : Nat → Option Nat := (layB W H (wdG G wp) (hgG G wp) (okG G ew eo es wp we wc wo) nw).2
/-- both sides hold the same -/
def RelX (A ro pa ea wa : Nat → Nat) (K T V N : Nat → Int32) (n np : Nat) (G : Nat → Pg) (ne : Nat) (ew : Nat → Nat) (eo es : Nat → Int32) (nw : Nat) (wp we : Nat → Nat) (wc : Nat → Int32) (wo : Nat → Option Nat) (W H : Nat) (X : Mem) : Prop := BaseX A ro X ∧ DrfX A ro K T V N n X ∧ PrsX A ro pa np G X ∧ ExsX A ro pa ea ne ew eo es X ∧ WksX A ro pa ea wa nw wp we wc wo X ∧ WalX A W H X ∧ HngX W wa nw (layG W H G ew eo es wp we wc wo nw) X
def RelS (K T V N : Nat → Int32) (n np : Nat) (G : Nat → Pg) (ne : Nat) (ew : Nat → Nat) (eo es : Nat → Int32) (nw : Nat) (wp we : Nat → Nat) (wc : Nat → Int32) (W H : Nat) (S : SM) : Prop := DrfS K T V N n S ∧ PrsS np G S ∧ ExsS ne ew eo es S ∧ WksS nw wp we wc S ∧ WalS W H S ∧ ar S 18 0 = 0
def RelP (K T V N : Nat → Int32) (n np : Nat) (G : Nat → Pg) (ne : Nat) (ew : Nat → Nat) (nw : Nat) (wp we : Nat → Nat) (wc : Nat → Int32) (wo : Nat → Option Nat) (W H : Nat) : Prop := DrfP K T V N n ∧ PrsP np G ∧ ExsP np ne ew ∧ WksP np ne nw G wp we wc wo ∧ WalP W H
def Rel (x : Nat) (X : Mem) (S : SM) : Prop := ∃ A ro pa ea wa K T V N n np G ne ew eo es nw wp we wc wo W H, A 0 = x ∧ RelX A ro pa ea wa K T V N n np G ne ew eo es nw wp we wc wo W H X ∧ RelS K T V N n np G ne ew eo es nw wp we wc W H S ∧ RelP K T V N n np G ne ew nw wp we wc wo W H
theorem RelS.sk {K T V N : Nat → Int32} {n np : Nat} {G : Nat → Pg} {ne : Nat} {ew : Nat → Nat} {eo es : Nat → Int32} {nw : Nat} {wp we : Nat → Nat} {wc : Nat → Int32} {W H : Nat} {S S' : SM} (h : RelS K T V N n np G ne ew eo es nw wp we wc W H S) (k : SK S S') : RelS K T V N n np G ne ew eo es nw wp we wc W H S' := ⟨h.1.sk k, h.2.1.sk k, h.2.2.1.sk k, h.2.2.2.1.sk k, h.2.2.2.2.1.sk k, by rw [k.2.2]; exact h.2.2.2.2.2⟩
theorem Rel.sk {x : Nat} {X : Mem} {S S' : SM} (h : Rel x X S) (k : SK S S') : Rel x X S' := by
  obtain ⟨A, ro, pa, ea, wa, K, T, V, N, n, np, G, ne, ew, eo, es, nw, wp, we, wc, wo, W, H, h0, h1, h2, h3⟩ := h
  exact ⟨A, ro, pa, ea, wa, K, T, V, N, n, np, G, ne, ew, eo, es, nw, wp, we, wc, wo, W, H, h0, h1, h2.sk k, h3⟩
theorem Rel_z : ∀ (x : Nat) (X : Mem) (S : SM) (z : Nat), Rel x X S → Rel x (zM X z) S := fun _ _ _ _ h => h
theorem Rel_k : ∀ (x : Nat) (X : Mem) (S : SM), Rel x X S → mK X x = some (11, 0) := by
  intro x X S h
  obtain ⟨A, ro, pa, ea, wa, K, T, V, N, n, np, G, ne, ew, eo, es, nw, wp, we, wc, wo, W, H, rfl, h1, -, -⟩ := h
  exact h1.1.k 0 11 0 (by decide)
