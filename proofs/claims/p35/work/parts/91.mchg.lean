/-! WHAT THE CLASS ANSWERS, in numbers: what changes -/
section MC
variable {fu x : Nat} {K T V N : Nat → Int32} {n np : Nat} {G : Nat → Pg} {ne : Nat} {ew : Nat → Nat} {eo es : Nat → Int32} {nw : Nat} {wp we : Nat → Nat} {wc : Nat → Int32} {wo : Nat → Option Nat} {W H : Nat} {X : Mem}
def lcG (g g' : Pg) : Nat := lcR (cdR (pgK g) (pgT g) (pgV g) (pgN g)) (cdR (pgK g') (pgT g') (pgV g') (pgN g')) (pgn g) (pgn g')
theorem m_likeness {p q : Nat} (hfu : 5000 ≤ fu) (h : StX x K T V N n np G ne ew eo es nw wp we wc wo W H X) (hP : RelP K T V N n np G ne ew nw wp we wc wo W H) (hp : p < np) (hq : q < np) : ∃ X1, fX11_likeness fu X x (nI p) (nI q) = some (.inr (((200 : Int32) * nI (lcG (G p) (G q))) / nI (pgn (G p) + pgn (G q)), X1)) ∧ StX x K T V N n np G ne ew eo es nw wp we wc wo W H X1 ∧ Keeps9 X X1 := by
  obtain ⟨hF, A, ro, pa, ea, wa, rfl, B, D, P, E, Wk, Wl, Hg⟩ := h
  obtain ⟨pD, pP, pE, pW, pL⟩ := hP
  have b1 := pP.1
  have hne := pE.1
  have hnw := pW.1
  have hx := B.k 0 11 0 (by decide)
  have gb := pP.2 p hp
  have gb' := pP.2 q hq
  obtain ⟨os, pa9, wa9, fo, dr9, ra, ua, oa, h1, h2, h3, h4, h5, ⟨-, -, -, -, r5, -⟩, -⟩ := (P.2 p hp).2
  obtain ⟨os', pa9', wa9', fo', dr9', ra', ua', oa', i1, i2, i3, i4, i5, ⟨-, -, -, -, r5', -⟩, -⟩ := (P.2 q hq).2
  obtain ⟨u1, u2, c1, c2, c3, c4, c5, c6, c7⟩ := B.2.2
  have n50 : ∀ {a b : Nat}, ro a = 50 → ro b = 17 → a ≠ b := fun h9 h8 z => by rw [z, h8] at h9; exact absurd h9 (by decide)
  obtain ⟨X1, u', v', k1, k2, k3, k4, k5⟩ := e_longest (fu := fu) (de := A 4) (d1 := u1) (d2 := u2) (f1 := fo) (f2 := fo') (u := u1) (v := u2) (c := cdC (pgK (G p)) (pgT (G p)) (pgV (G p)) (pgN (G p))) (c' := cdC (pgK (G q)) (pgT (G q)) (pgV (G q)) (pgN (G q))) (by omega) gb.1.1 gb'.1.1 c5 (n50 r5 c6) (n50 r5 c7) (n50 r5' c6) (n50 r5' c7) (Or.inl ⟨rfl, rfl⟩) (B.k 4 0 0 (by decide)) c1 c2 c3 c4 h1.2.2.2.2.1 i1.2.2.2.2.1 h1.2.2.2.2.2.2.2.2.2.2.2.2.2 i1.2.2.2.2.2.2.2.2.2.2.2.2.2
  have hn0 := gb.2.1
  have hn1 := gb'.2.1
  have hn2 := gb.1.1
  have hn3 := gb'.1.1
  have el : lcR (cdC (pgK (G p)) (pgT (G p)) (pgV (G p)) (pgN (G p))) (cdC (pgK (G q)) (pgT (G q)) (pgV (G q)) (pgN (G q))) (pgn (G p)) (pgn (G q)) = lcR (cdR (pgK (G p)) (pgT (G p)) (pgV (G p)) (pgN (G p))) (cdR (pgK (G q)) (pgT (G q)) (pgV (G q)) (pgN (G q))) (pgn (G p)) (pgn (G q)) := lcR_cg (fun i j hi hj => cd_eq gb.1 gb'.1 hi hj) _ _ (Nat.le_refl _) (Nat.le_refl _)
  have fm := k2.fm
  have hP : ∀ (L : List Nat), 4 ∉ L → 17 ∉ L → ∀ a, ro a ∈ L → ¬ (a = A 4 ∨ a = u1 ∨ a = u2) := by
    rintro L y1 y2 a ha (z | z | z)
    · rw [z, B.o 4 0 0 (by decide)] at ha; exact y1 ha
    · rw [z, c6] at ha; exact y2 ha
    · rw [z, c7] at ha; exact y2 ha
  have id9 : ∀ a, a < mZ X → ro a = ro a := fun _ _ => rfl
  have B' : BaseX A ro X1 := B.fm2 hF fm (fun y hy => by
    obtain ⟨y1, p9, y2, y3⟩ := bR_4 y hy
    refine k2.2.2.2.2.2.1 _ _ (fun z => ?_)
    have o1 := (B.1 p9 y2).2
    rw [y3, z, B.o 4 0 0 (by decide)] at o1
    exact y1 o1.symm) (by
    rcases k3 with ⟨rfl, rfl⟩ | ⟨rfl, rfl⟩
    · exact ⟨_, _, k4, k5, by rw [k2.1]; exact c3, by rw [k2.1]; exact c4, c5, c6, c7⟩
    · exact ⟨_, _, k4, k5, by rw [k2.1]; exact c4, by rw [k2.1]; exact c3, c5.symm, c7, c6⟩)
  unfold fX11_likeness
  rw [if_pos hx, x_progI B P b1 hp, bE_r, x_progI B P b1 hq, bE_r, bi_some, if_pos h1.1.1, h1.1.len, bi_some, bi_some, if_pos i1.1.1, i1.1.len, bi_some, nI_add, if_pos (show 0 < nI (pgn (G p) + pgn (G q)) from (nI_ltI (a := 0) (by omega) (by omega)).mpr (by omega)), B.r 1103 0 4 (by decide), bi_some, if_pos (B.k 4 0 0 (by decide)), h1.2.2.2.1, i1.2.2.2.1, k1, bW_some, if_neg (nI_ne0 (by omega) (by omega)), el]
  exact ⟨X1, rfl, ⟨hF.cg k2.1 k2.2.2.2.2.1, A, ro, pa, ea, wa, rfl, B', D.fm B hF fm id9 (hP _ (by decide) (by decide)), P.fm B hF fm id9 (hP _ (by decide) (by decide)), E.fm B hF fm id9 (hP _ (by decide) (by decide)), Wk.fm B hF fm id9 (hP _ (by decide) (by decide)), Wl.fm B hF fm (hP _ (by decide) (by decide)), Hg.fm Wk hF fm (hP _ (by decide) (by decide))⟩, by rw [k2.2.2.2.2.1]; exact Nat.le_refl _, fun a _ => by rw [k2.1]⟩
theorem m_setWall {W' H' : Nat} (hfu : 5000 ≤ fu) (h : StX x K T V N n np G ne ew eo es nw wp we wc wo W H X) (hP : RelP K T V N n np G ne ew nw wp we wc wo W H) (pL' : WalP W' H') : ∃ X1, fX11_setWall fu X x (nI W') (nI H') = some (.inr (nI (cnB (fun w => layG W' H' G ew eo es wp we wc wo nw w ≠ none) nw), X1)) ∧ StX x K T V N n np G ne ew eo es nw wp we wc wo W' H' X1 ∧ RelP K T V N n np G ne ew nw wp we wc wo W' H' ∧ Keeps9 X X1 := by
  obtain ⟨hF, A, ro, pa, ea, wa, rfl, B, D, P, E, Wk, Wl, Hg⟩ := h
  obtain ⟨pD, pP, pE, pW, pL⟩ := hP
  have b1 := pP.1
  have hne := pE.1
  have hnw := pW.1
  have hx := B.k 0 11 0 (by decide)
  have h5 := B.k 5 9 0 (by decide)
  have fm : Fm (fun b => b = A 5) X (wI (wI X 901 (A 5) (nI W')) 902 (A 5) (nI H')) := Fm.trans (P := fun b => b = A 5) (Fm.wI (Or.inl rfl)) (Fm.wI (Or.inl rfl))
  have f1 : FreshM (wI (wI X 901 (A 5) (nI W')) 902 (A 5) (nI H')) := hF.cg rfl rfl
  have rk : RfK X (wI (wI X 901 (A 5) (nI W')) 902 (A 5) (nI H')) := RfK.of rfl
  have Wl1 : WalX A W' H' (wI (wI X 901 (A 5) (nI W')) 902 (A 5) (nI H')) := ⟨by rw [mI_wI, if_neg (by omega), mI_wI, if_pos ⟨rfl, rfl⟩], by rw [mI_wI, if_pos ⟨rfl, rfl⟩]⟩
  have m1 : fX9_measure X (A 5) (nI W') (nI H') = some (wI (wI X 901 (A 5) (nI W')) 902 (A 5) (nI H')) := if_pos h5
  have hz : mZ (wI (wI X 901 (A 5) (nI W')) 902 (A 5) (nI H')) = mZ X := rfl
  have hk : mK (wI (wI X 901 (A 5) (nI W')) 902 (A 5) (nI H')) = mK X := rfl
  generalize wI (wI X 901 (A 5) (nI W')) 902 (A 5) (nI H') = X1 at fm f1 rk Wl1 m1 hz hk
  have hP : ∀ (L : List Nat), 5 ∉ L → ∀ a, ro a ∈ L → ¬ (a = A 5) := by
    intro L h1 a ha z
    rw [z, B.o 5 9 0 (by decide)] at ha
    exact h1 ha
  have id9 : ∀ a, a < mZ X → ro a = ro a := fun _ _ => rfl
  have B1 : BaseX A ro X1 := B.fm hF fm rk id9 (B.2.2.fm hF (B.k 4 0 0 (by decide)) fm id9 (hP [4] (by decide) _ (by rw [B.o 4 0 0 (by decide)]; decide)))
  obtain ⟨X', z1, k, R'⟩ := x_layR (fu := fu) (K := K) (T := T) (V := V) (N := N) (n := n) (by omega) f1 B1 (D.fm B hF fm id9 (hP _ (by decide))) (P.fm B hF fm id9 (hP _ (by decide))) (E.fm B hF fm id9 (hP _ (by decide))) (Wk.fm B hF fm id9 (hP _ (by decide))) Wl1 pP pE pW pL'
  have c1 := x_count4 (fu := fu) R'.1 R'.2.2.2.2.1 R'.2.2.2.2.2.2 pW nw 0 (fu - nw - 1) (by omega)
  rw [show fu - nw - 1 + nw + 1 = fu by omega] at c1
  have c1 : fX11_countHanging fu X' (A 0) = _ := c1
  have hx' : mK X' (A 0) = some (11, 0) := R'.1.k 0 11 0 (by decide)
  have a1 : ¬ nI W' < (1 : Int32) := fun q => by have := (nI_ltI (by have := pL'.2.1; omega) (by omega : 1 < 2 ^ 31)).mp q; have := pL'.1; omega
  have a2 : ¬ (40 : Int32) < nI W' := fun q => by have := (nI_ltI (by omega : 40 < 2 ^ 31) (by have := pL'.2.1; omega)).mp q; have := pL'.2.1; omega
  have a3 : ¬ nI H' < (1 : Int32) := fun q => by have := (nI_ltI (by have := pL'.2.2.2; omega) (by omega : 1 < 2 ^ 31)).mp q; have := pL'.2.2.1; omega
  have a4 : nI H' ≤ (40 : Int32) := (nI_leI (by have := pL'.2.2.2; omega) (by omega : 40 < 2 ^ 31)).mpr pL'.2.2.2
  unfold fX11_setWall
  rw [if_neg a1, if_neg a2, if_neg a3, if_pos a4, if_pos hx, B.r 1104 0 5 (by decide), bi_some, if_pos h5, m1, bi_some, if_pos (B1.k 0 11 0 (by decide)), z1, bi_some, if_pos hx', c1, bi_some]
  exact ⟨X', rfl, ⟨f1.cg k.1 k.2.2.2.2.1, A, ro, pa, ea, wa, rfl, R'⟩, ⟨pD, pP, pE, pW, pL'⟩, by rw [k.2.2.2.2.1, hz]; exact Nat.le_refl _, fun a _ => by rw [k.1, hk]⟩
theorem x_limits {X : Mem} {u v : Int32} : (((1 ≤ u ∧ u ≤ 30) ∧ (0 ≤ v ∧ v ≤ 600)) ∧ fX11_checkAllowance X u v = some (.inr ())) ∨ (¬ ((1 ≤ u ∧ u ≤ 30) ∧ (0 ≤ v ∧ v ≤ 600)) ∧ fX11_checkAllowance X u v = some (.inl "java/lang/IllegalArgumentException")) := by
  unfold fX11_checkAllowance
  by_cases a : u < 1
  · rw [if_pos a]
    exact Or.inr ⟨fun z => Int32.not_lt.mpr z.1.1 a, rfl⟩
  rw [if_neg a]
  by_cases b : 30 < u
  · rw [if_pos b]
    exact Or.inr ⟨fun z => Int32.not_lt.mpr z.1.2 b, rfl⟩
  rw [if_neg b]
  by_cases c : v < 0
  · rw [if_pos c]
    exact Or.inr ⟨fun z => Int32.not_lt.mpr z.2.1 c, rfl⟩
  rw [if_neg c]
  by_cases d : v ≤ 600
  · rw [if_pos d]
    exact Or.inl ⟨⟨⟨Int32.not_lt.mp a, Int32.not_lt.mp b⟩, Int32.not_lt.mp c, d⟩, rfl⟩
  · rw [if_neg d]
    exact Or.inr ⟨fun z => d z.2.2, rfl⟩
def upN {α : Type} (f : Nat → α) (i : Nat) (v : α) : Nat → α := fun j => if j = i then v else f j
theorem upN_s {α : Type} {f : Nat → α} {i : Nat} {v : α} : upN f i v i = v := if_pos rfl
theorem upN_o {α : Type} {f : Nat → α} {i j : Nat} {v : α} (h : j ≠ i) : upN f i v j = f j := if_neg h
theorem m_allow {e : Nat} {q1 q2 : Int32} (hfu : 5000 ≤ fu) (h : StX x K T V N n np G ne ew eo es nw wp we wc wo W H X) (hP : RelP K T V N n np G ne ew nw wp we wc wo W H) (he : e < ne) (hl : (1 ≤ q1 ∧ q1 ≤ 30) ∧ (0 ≤ q2 ∧ q2 ≤ 600)) : ∃ X1, fX11_allow fu X x (nI e) q1 q2 = some (.inr (nI (cnB (fun w => we w = e ∧ MtG G ew (upN eo e q1) (upN es e q2) wp we w) nw), X1)) ∧ StX x K T V N n np G ne ew (upN eo e q1) (upN es e q2) nw wp we wc wo W H X1 ∧ Keeps9 X X1 := by
  obtain ⟨hF, A, ro, pa, ea, wa, rfl, B, D, P, E, Wk, Wl, Hg⟩ := h
  obtain ⟨pD, pP, pE, pW, pL⟩ := hP
  have b1 := pP.1
  have hne := pE.1
  have hnw := pW.1
  have hx := B.k 0 11 0 (by decide)
  obtain ⟨a1, a2, a3, a4, a5, a6⟩ := E.2.2 e he
  have fm : Fm (fun b => b = ea e) X (wI (wI X 301 (ea e) q1) 302 (ea e) q2) := Fm.trans (P := fun b => b = ea e) (Fm.wI (Or.inl rfl)) (Fm.wI (Or.inl rfl))
  have g1 : FreshM (wI (wI X 301 (ea e) q1) 302 (ea e) q2) := hF.cg rfl rfl
  have rk : RfK X (wI (wI X 301 (ea e) q1) 302 (ea e) q2) := RfK.of rfl
  have m1 : fX3_allowAtMost X (ea e) q1 q2 = some (wI (wI X 301 (ea e) q1) 302 (ea e) q2) := if_pos a2
  have hz : mZ (wI (wI X 301 (ea e) q1) 302 (ea e) q2) = mZ X := rfl
  have hk : mK (wI (wI X 301 (ea e) q1) 302 (ea e) q2) = mK X := rfl
  have E1 : ExsX A ro pa ea ne ew (upN eo e q1) (upN es e q2) (wI (wI X 301 (ea e) q1) 302 (ea e) q2) := by
    refine ⟨?_, E.2.1, fun i hi => ?_⟩
    · rw [mI_wI, if_neg (by omega), mI_wI, if_neg (by omega)]
      exact E.1
    · obtain ⟨b1, b2, b3, b4, b5, b6⟩ := E.2.2 i hi
      refine ⟨b1, b2, b3, b4, ?_, ?_⟩
      · rw [mI_wI, if_neg (by omega), mI_wI]
        by_cases ei : i = e
        · rw [if_pos ⟨rfl, by rw [ei]⟩, ei, upN_s]
        · rw [if_neg (fun z => ei (E.2.1 _ _ hi he z.2)), upN_o ei, b5]
      · rw [mI_wI]
        by_cases ei : i = e
        · rw [if_pos ⟨rfl, by rw [ei]⟩, ei, upN_s]
        · rw [if_neg (fun z => ei (E.2.1 _ _ hi he z.2)), upN_o ei, mI_wI, if_neg (by omega), b6]
  generalize wI (wI X 301 (ea e) q1) 302 (ea e) q2 = X1 at fm g1 rk m1 hz hk E1
  have hP : ∀ (L : List Nat), 21 ∉ L → ∀ a, ro a ∈ L → ¬ (a = ea e) := by
    intro L h1 a ha z
    rw [z, a3] at ha
    exact h1 ha
  have id9 : ∀ a, a < mZ X → ro a = ro a := fun _ _ => rfl
  have B1 : BaseX A ro X1 := B.fm hF fm rk id9 (B.2.2.fm hF (B.k 4 0 0 (by decide)) fm id9 (hP [4] (by decide) _ (by rw [B.o 4 0 0 (by decide)]; decide)))
  obtain ⟨X', z1, k, R'⟩ := x_layR (fu := fu) (K := K) (T := T) (V := V) (N := N) (n := n) (by omega) g1 B1 (D.fm B hF fm id9 (hP _ (by decide))) (P.fm B hF fm id9 (hP _ (by decide))) E1 (Wk.fm B hF fm id9 (hP _ (by decide))) (Wl.fm B hF fm (hP _ (by decide))) pP pE pW pL
  have c1 := x_meet4 (fu := fu) (by omega) he R'.1 R'.2.2.1 R'.2.2.2.1 R'.2.2.2.2.1 pP pE pW nw 0 (fu - nw - 1) (by omega)
  rw [show fu - nw - 1 + nw + 1 = fu by omega] at c1
  have c1 : fX11_countMeeting fu X' (A 0) (some (ea e)) = _ := c1
  have hx' : mK X' (A 0) = some (11, 0) := R'.1.k 0 11 0 (by decide)
  have hc : fX11_checkAllowance X q1 q2 = some (.inr ()) := (x_limits (X := X) (u := q1) (v := q2)).elim (fun z => z.2) (fun z => absurd hl z.1)
  unfold fX11_allow
  rw [if_pos hx, x_exerI B E hne he, bE_r, hc, bE_r, bi_some, if_pos a2, m1, bi_some, if_pos (B1.k 0 11 0 (by decide)), z1, bi_some, if_pos hx', c1, bi_some]
  exact ⟨X', rfl, ⟨g1.cg k.1 k.2.2.2.2.1, A, ro, pa, ea, wa, rfl, R'⟩, by rw [k.2.2.2.2.1, hz]; exact Nat.le_refl _, fun a _ => by rw [k.1, hk]⟩
theorem m_clear {w : Nat} {q1 : Int32} (hfu : 5000 ≤ fu) (h : StX x K T V N n np G ne ew eo es nw wp we wc wo W H X) (hP : RelP K T V N n np G ne ew nw wp we wc wo W H) (hw : w < nw) (hq : q1 = 0 ∨ q1 = 1) : ∃ X1, fX11_clear fu X x (nI w) q1 = some (.inr (wc w, X1)) ∧ StX x K T V N n np G ne ew eo es nw wp we (upN wc w q1) wo W H X1 ∧ RelP K T V N n np G ne ew nw wp we (upN wc w q1) wo W H ∧ Keeps9 X X1 := by
  obtain ⟨hF, A, ro, pa, ea, wa, rfl, B, D, P, E, Wk, Wl, Hg⟩ := h
  obtain ⟨pD, pP, pE, pW, pL⟩ := hP
  have b1 := pP.1
  have hne := pE.1
  have hnw := pW.1
  have hx := B.k 0 11 0 (by decide)
  obtain ⟨w1, w2, w3, w4, w5, w6, w7⟩ := Wk.2.2 w hw
  have hwc := pW.2.2.1 w (by omega)
  have fm : Fm (fun b => b = wa w) X (wI X 1003 (wa w) q1) := Fm.wI (Or.inl rfl)
  have g1 : FreshM (wI X 1003 (wa w) q1) := hF.cg rfl rfl
  have rk : RfK X (wI X 1003 (wa w) q1) := RfK.of rfl
  have hz : mZ (wI X 1003 (wa w) q1) = mZ X := rfl
  have hk : mK (wI X 1003 (wa w) q1) = mK X := rfl
  have Wk1 : WksX A ro pa ea wa nw wp we (upN wc w q1) wo (wI X 1003 (wa w) q1) := by
    refine ⟨?_, Wk.2.1, fun i hi => ?_⟩
    · rw [mI_wI, if_neg (by omega)]
      exact Wk.1
    · obtain ⟨b1, b2, b3, b4, b5, b6, b7⟩ := Wk.2.2 i hi
      refine ⟨b1, b2, b3, b4, b5, ?_, ?_⟩
      · rw [mI_wI, if_neg (by omega)]
        exact b6
      · rw [mI_wI]
        by_cases ei : i = w
        · rw [if_pos ⟨rfl, by rw [ei]⟩, ei, upN_s]
        · rw [if_neg (fun z => ei (Wk.2.1 _ _ hi hw z.2)), upN_o ei, b7]
  generalize hX1 : wI X 1003 (wa w) q1 = X1 at fm g1 rk hz hk Wk1
  have hP : ∀ (L : List Nat), 20 ∉ L → ∀ a, ro a ∈ L → ¬ (a = wa w) := by
    intro L h1 a ha z
    rw [z, w3] at ha
    exact h1 ha
  have id9 : ∀ a, a < mZ X → ro a = ro a := fun _ _ => rfl
  have B1 : BaseX A ro X1 := B.fm hF fm rk id9 (B.2.2.fm hF (B.k 4 0 0 (by decide)) fm id9 (hP [4] (by decide) _ (by rw [B.o 4 0 0 (by decide)]; decide)))
  have pW' : WksP np ne nw G wp we (upN wc w q1) wo := by
    refine ⟨pW.1, pW.2.1, fun i hi => ?_, fun i h1 h2 => ?_⟩
    · by_cases ei : i = w
      · rw [ei, upN_s]; exact hq
      · rw [upN_o ei]; exact pW.2.2.1 i hi
    · rw [upN_o (by omega)]; exact pW.2.2.2 i h1 h2
  obtain ⟨X', z1, k, R'⟩ := x_layR (fu := fu) (K := K) (T := T) (V := V) (N := N) (n := n) (by omega) g1 B1 (D.fm B hF fm id9 (hP _ (by decide))) (P.fm B hF fm id9 (hP _ (by decide))) (E.fm B hF fm id9 (hP _ (by decide))) Wk1 (Wl.fm B hF fm (hP _ (by decide))) pP pE pW' pL
  unfold fX11_clear
  rw [if_pos hx, x_workI B Wk hnw hw, bE_r, bi_some, if_pos w2, if_pos hq, hX1, z1, bi_some, w7, if_pos hwc]
  exact ⟨X', rfl, ⟨g1.cg k.1 k.2.2.2.2.1, A, ro, pa, ea, wa, rfl, R'⟩, ⟨pD, pP, pE, pW', pL⟩, by rw [k.2.2.2.2.1, hz]; exact Nat.le_refl _, fun a _ => by rw [k.1, hk]⟩
end MC
