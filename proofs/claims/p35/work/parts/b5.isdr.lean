/-! what is written is a drawing -/
theorem Keeps9.trans {a b c : Mem} (h : Keeps9 a b) (k : Keeps9 b c) : Keeps9 a c := ⟨Nat.le_trans h.1 k.1, fun x hx => (k.2 x (Nat.lt_of_lt_of_le hx h.1)).trans (h.2 x hx)⟩
section ISD
variable {fu x ac ap aw : Nat} {K T V N : Nat → Int32} {n np : Nat} {G : Nat → Pg} {ne : Nat} {ew : Nat → Nat} {eo es : Nat → Int32} {nw : Nat} {wp we : Nat → Nat} {wc : Nat → Int32} {wo : Nat → Option Nat} {W H : Nat} {P : LwP}
section REC
variable {rec19 : LwP → Nat → Nat → Int32 → Int32 → Int32 → Int32 → Int32 → Int32 → Int32 → Option (Int32 × LwP)} {x1 : Nat} {x2 x3 x4 x5 x6 x7 : Int32} {i : Nat}
theorem i_205 : fL_isDrawing_L205 fu rec19 P x x1 x2 x3 x4 x5 x6 x7 (nI i) = rec19 P x x1 x2 x3 x4 x5 x6 x7 (nI (i + 1)) := by
  unfold fL_isDrawing_L205
  rw [nI_1]
theorem i_203 {s0 : Int32} : fL_isDrawing_L203 fu rec19 P x x1 x2 x3 x4 x5 x6 (nI i) s0 = rec19 P x x1 x2 x3 x4 x5 x6 s0 (nI (i + 1)) := by
  unfold fL_isDrawing_L203
  rw [i_205]
theorem i_189 {x10 : Int32} : fL_isDrawing_L189 fu rec19 P x x1 x2 x3 x4 x5 x6 x7 (nI i) x10 = rec19 P x x1 x2 x3 x4 x5 x6 (maxI x7 x10) (nI (i + 1)) := by
  unfold fL_isDrawing_L189 maxI
  by_cases h : x10 ≤ x7
  · rw [if_pos h, if_pos h, i_203]
  · rw [if_neg h, if_neg h, i_203]
theorem mx1 {a : Int32} {y : Nat} (hy : y < 100) (h : nI y + 1 ≤ a) : maxI a (nI y) = a ∧ maxI a (nI y + 1) = a := by
  refine ⟨if_pos (Int32.le_trans ?_ h), if_pos h⟩
  rw [nI_1]
  exact (nI_leI (by omega) (by omega)).mpr (by omega)
theorem mx2 {a : Int32} {b : Int32} (h : ¬ b ≤ a) : maxI a b = b := if_neg h
theorem i_166 {x12 s0 : Int32} {y : Nat} (hy : y < 100) : fL_isDrawing_L166 fu rec19 P x x1 x2 x3 x4 x5 x7 (nI i) (nI y) x12 s0 = rec19 P x x1 x2 x3 x4 x5 s0 (maxI x7 (if x12 = 0 then nI y else nI y + 1)) (nI (i + 1)) := by
  unfold fL_isDrawing_L166
  by_cases h : x12 = 0
  · rw [if_pos h, if_pos h, i_189]
  · rw [if_neg h, if_neg h]
    by_cases h2 : nI y + 1 ≤ x7
    · rw [if_pos h2, i_189, (mx1 hy h2).1, (mx1 hy h2).2]
    · rw [if_neg h2, i_203, mx2 h2]
theorem i_152 {x12 x9 : Int32} {y : Nat} (hy : y < 100) : fL_isDrawing_L152 fu rec19 P x x1 x2 x3 x4 x5 x6 x7 (nI i) x9 (nI y) x12 = rec19 P x x1 x2 x3 x4 x5 (maxI x6 x9) (maxI x7 (if x12 = 0 then nI y else nI y + 1)) (nI (i + 1)) := by
  unfold fL_isDrawing_L152
  by_cases h : x9 ≤ x6
  · rw [if_pos h, i_166 hy, show maxI x6 x9 = x6 from if_pos h]
  · rw [if_neg h, i_166 hy, mx2 h]
theorem i_129 {x11 x12 s0 : Int32} {a y : Nat} (ha : a < 100) (hy : y < 100) : fL_isDrawing_L129 fu rec19 P x x1 x2 x3 x4 x6 x7 (nI i) (nI a) (nI y) x11 x12 s0 = rec19 P x x1 x2 x3 x4 s0 (maxI x6 (if x11 = 0 then nI a else nI a + 1)) (maxI x7 (if x12 = 0 then nI y else nI y + 1)) (nI (i + 1)) := by
  unfold fL_isDrawing_L129
  by_cases h : x11 = 0
  · rw [if_pos h, if_pos h, i_152 hy]
  · rw [if_neg h, if_neg h]
    by_cases h2 : nI a + 1 ≤ x6
    · rw [if_pos h2, i_152 hy, (mx1 ha h2).1, (mx1 ha h2).2]
    · rw [if_neg h2, i_166 hy, mx2 h2]
theorem i_113 {x11 x12 s0 : Int32} {a y : Nat} (ha : a < 100) (hy : y < 100) : fL_isDrawing_L113 fu rec19 P x x1 x2 x3 x5 x6 x7 (nI i) (nI a) (nI y) x11 x12 s0 = rec19 P x x1 x2 x3 s0 (minI x5 (nI y)) (maxI x6 (if x11 = 0 then nI a else nI a + 1)) (maxI x7 (if x12 = 0 then nI y else nI y + 1)) (nI (i + 1)) := by
  unfold fL_isDrawing_L113 minI
  by_cases h : x5 ≤ nI y
  · rw [if_pos h, if_pos h, i_129 ha hy]
  · rw [if_neg h, if_neg h, i_129 ha hy]
theorem i_99 {x11 x12 : Int32} {a y : Nat} (ha : a < 100) (hy : y < 100) : fL_isDrawing_L99 fu rec19 P x x1 x2 x3 x4 x5 x6 x7 (nI i) (nI a) (nI y) x11 x12 = rec19 P x x1 x2 x3 (minI x4 (nI a)) (minI x5 (nI y)) (maxI x6 (if x11 = 0 then nI a else nI a + 1)) (maxI x7 (if x12 = 0 then nI y else nI y + 1)) (nI (i + 1)) := by
  unfold fL_isDrawing_L99
  by_cases h : x4 ≤ nI a
  · rw [if_pos h, i_113 ha hy, show minI x4 (nI a) = x4 from if_pos h]
  · rw [if_neg h, i_113 ha hy, show minI x4 (nI a) = nI a from if_neg h]
theorem i_86 {R U : Nat → Int32} {s0 s1 s2 : Int32} (hi : i < 256) : fL_isDrawing_L86 fu rec19 P x x1 x2 x4 x5 x6 x7 (nI i) (nI (i % 16)) (nI (i / 16)) (gR R i) (gR U i) s0 s1 s2 = rec19 P x x1 x2 (s0 + (s1 + s2)) (bxS R U i (x4, x5, x6, x7)).1 (bxS R U i (x4, x5, x6, x7)).2.1 (bxS R U i (x4, x5, x6, x7)).2.2.1 (bxS R U i (x4, x5, x6, x7)).2.2.2 (nI (i + 1)) := by
  have a1 : i % 16 < 100 := by omega
  have a2 : i / 16 < 100 := by omega
  unfold fL_isDrawing_L86 bxS
  by_cases h1 : gR R i = 0
  · by_cases h2 : gR U i = 0
    · rw [if_pos h1, if_pos h2, if_pos ⟨h1, h2⟩, i_205]
    · rw [if_pos h1, if_neg h2, if_neg (fun q => h2 q.2), i_99 a1 a2]
  · rw [if_neg h1, if_neg (fun q => h1 q.1), i_99 a1 a2]
end REC
theorem i_19 {q : Nat} (hR : RelP K T V N n np G ne ew nw wp we wc wo W H) (hS : StX x K T V N n np G ne ew eo es nw wp we wc wo W H P.1) (hq : q < np) : ∀ (t i m : Nat), i + t = 256 → fL_isDrawing_L19 fu (m + t + 1) P x ap (nI q) (nI (nS (cR (pgF (G q))) (cU (pgF (G q))) i)) (bxR (cR (pgF (G q))) (cU (pgF (G q))) i).1 (bxR (cR (pgF (G q))) (cU (pgF (G q))) i).2.1 (bxR (cR (pgF (G q))) (cU (pgF (G q))) i).2.2.1 (bxR (cR (pgF (G q))) (cU (pgF (G q))) i).2.2.2 (nI i) = fL_isDrawing_L19b fu (fL_isDrawing_L19 fu m) P x ap (nI q) (nI (nS (cR (pgF (G q))) (cU (pgF (G q))) 256)) (bxR (cR (pgF (G q))) (cU (pgF (G q))) 256).1 (bxR (cR (pgF (G q))) (cU (pgF (G q))) 256).2.1 (bxR (cR (pgF (G q))) (cU (pgF (G q))) 256).2.2.1 (bxR (cR (pgF (G q))) (cU (pgF (G q))) 256).2.2.2 (nI 256) := by
  intro t
  induction t with
  | zero =>
    intro i m hi
    have hi : i = 256 := hi
    subst hi
    rfl
  | succ t ih =>
    intro i m hi
    have hi2 : i < 256 := by omega
    rw [← ih (i + 1) m (by omega)]
    have e16 : nI i - nI i / (16 : Int32) * (16 : Int32) = nI (i % 16) := pk_rem (by omega) (by decide) (by decide)
    have d16 : nI i / (16 : Int32) = nI (i / 16) := pk_div (by omega) (by decide) (by decide)
    have w0 : fX11_isDrawn P.1 x (nI q) (nI (i % 16)) (nI (i / 16)) 0 = some (.inr (gR (cR (pgF (G q))) i)) := by
      rw [m_isDrawn hS hR hq (by omega) (by omega), if_pos rfl]
      rfl
    have w1 : fX11_isDrawn P.1 x (nI q) (nI (i % 16)) (nI (i / 16)) 1 = some (.inr (gR (cU (pgF (G q))) i)) := by
      rw [m_isDrawn hS hR hq (by omega) (by omega), if_neg n10]
      rfl
    show fL_isDrawing_L19b fu (fL_isDrawing_L19 fu (m + t + 1)) P x ap (nI q) _ _ _ _ _ (nI i) = _
    generalize fL_isDrawing_L19 fu (m + t + 1) = rec19
    unfold fL_isDrawing_L19b
    rw [if_neg (show ¬ (256 : Int32) ≤ nI i from fun z => by have := (nI_leI (by omega : 256 < 2 ^ 31) (by omega)).mp z; omega), if_pos (m_k hS), e16, d16, w0, nT_r, w1, nT_r, nS_1]
    show _ = rec19 P x ap (nI q) _ (bxS (cR (pgF (G q))) (cU (pgF (G q))) i (bxR (cR (pgF (G q))) (cU (pgF (G q))) i)).1 (bxS (cR (pgF (G q))) (cU (pgF (G q))) i (bxR (cR (pgF (G q))) (cU (pgF (G q))) i)).2.1 (bxS (cR (pgF (G q))) (cU (pgF (G q))) i (bxR (cR (pgF (G q))) (cU (pgF (G q))) i)).2.2.1 (bxS (cR (pgF (G q))) (cU (pgF (G q))) i (bxR (cR (pgF (G q))) (cU (pgF (G q))) i)).2.2.2 (nI (i + 1))
    unfold fL_isDrawing_L76
    rw [i_86 hi2, i_86 hi2, i_86 hi2, i_86 hi2]
    rcases gR01 (R := cR (pgF (G q))) (i := i) with h1 | h1 <;> rcases gR01 (R := cU (pgF (G q))) (i := i) with h2 | h2
    · rw [if_pos h1, if_pos h2, h1, h2]
    · rw [if_pos h1, if_neg (by rw [h2]; decide), h1, h2]
    · rw [if_neg (by rw [h1]; decide), if_pos h2, h1, h2]
    · rw [if_neg (by rw [h1]; decide), if_neg (by rw [h2]; decide), h1, h2]
/-! steps one by one -/
def sbv (g : Pg) (j : Nat) : Int32 := cS (pgF g) (if cC (pgF g) ≤ j then cC (pgF g) else j)
theorem sbv_ok {g : Pg} (h : GB g) : sbv g 0 = 0 ∧ sbv g 600 = nI (pgk g) ∧ sbv g (cC (pgF g)) = nI (pgk g) ∧ ∀ j, ∃ a b : Nat, sbv g j = nI a ∧ sbv g (j + 1) = nI b ∧ a ≤ b ∧ b ≤ a + 1 ∧ b ≤ 600 := by
  obtain ⟨s1, s2, s3, s4, s5, f, f0, f1, f2, f3⟩ := h.steps
  have mono : ∀ d j, j + d = cC (pgF g) → f j ≤ pgk g := by
    intro d
    induction d with
    | zero => intro j hj; rw [show j = cC (pgF g) by omega, f3]; exact Nat.le_refl _
    | succ d ih => intro j hj; exact Nat.le_trans (f2 j (by omega)).1 (ih (j + 1) (by omega))
  refine ⟨?_, ?_, ?_, fun j => ?_⟩
  · unfold sbv
    by_cases e : cC (pgF g) ≤ 0
    · rw [if_pos e, f1 _ (Nat.le_refl _), show cC (pgF g) = 0 by omega, f0]
      rfl
    · rw [if_neg e, f1 0 (by omega), f0]
      rfl
  · unfold sbv
    rw [if_pos s1, f1 _ (Nat.le_refl _), f3]
  · unfold sbv
    rw [if_pos (Nat.le_refl _), f1 _ (Nat.le_refl _), f3]
  · unfold sbv
    by_cases e : cC (pgF g) ≤ j
    · rw [if_pos e, if_pos (by omega), f1 _ (Nat.le_refl _), f3]
      exact ⟨_, _, rfl, rfl, by omega, by omega, by omega⟩
    · rw [if_neg e, f1 j (by omega)]
      have q := f2 j (by omega)
      have l := mono (cC (pgF g) - (j + 1)) (j + 1) (by omega)
      by_cases e2 : cC (pgF g) ≤ j + 1
      · rw [if_pos e2, show cC (pgF g) = j + 1 by omega, f1 (j + 1) (by omega)]
        exact ⟨_, _, rfl, rfl, q.1, q.2, by omega⟩
      · rw [if_neg e2, f1 (j + 1) (by omega)]
        exact ⟨_, _, rfl, rfl, q.1, q.2, by omega⟩
theorem i_387 {q : Nat} (hfu : 100000000 ≤ fu) (hR : RelP K T V N n np G ne ew nw wp we wc wo W H) (hq : q < np) : ∀ (t s m : Nat) (P : LwP), s + t = 8 → StX x K T V N n np G ne ew eo es nw wp we wc wo W H P.1 → LOK P ac ap aw → ∃ X1, fL_isDrawing_L387 fu (m + t + 1) P x (nI q) (sbv (G q) s) 1 (nI (s + 1)) = some (1, (X1, P.2)) ∧ StX x K T V N n np G ne ew eo es nw wp we wc wo W H X1 ∧ Keeps9 P.1 X1 := by
  intro t
  induction t with
  | zero =>
    intro s m P hs hS hO
    have hs : s = 8 := hs
    subst hs
    refine ⟨P.1, ?_, hS, K9⟩
    show fL_isDrawing_L387b fu (fL_isDrawing_L387 fu m) P x (nI q) (sbv (G q) 8) 1 (nI 9) = _
    unfold fL_isDrawing_L387b
    rw [if_pos (show (9 : Int32) ≤ nI 9 by decide), if_pos (Or.inr rfl)]
  | succ t ih =>
    intro s m P hs hS hO
    obtain ⟨X1, z1, z2, z3⟩ := m_bySteps (ms := s + 1) hfu hS hR hq (by omega)
    have z1 : fX11_strokesBySteps fu P.1 x (nI q) (nI (s + 1)) = some (.inr (sbv (G q) (s + 1), X1)) := z1
    obtain ⟨a, b, e1, e2, e3, e4, e5⟩ := (sbv_ok (hR.2.1.2 q hq)).2.2.2 s
    obtain ⟨X2, y1, y2, y3⟩ := ih (s + 1) m (X1, P.2) (by omega) z2 (hO.cl z3)
    refine ⟨X2, ?_, y2, z3.trans y3⟩
    show fL_isDrawing_L387b fu (fL_isDrawing_L387 fu (m + t + 1)) P x (nI q) (sbv (G q) s) 1 (nI (s + 1)) = _
    rw [← y1]
    generalize fL_isDrawing_L387 fu (m + t + 1) = rec387
    unfold fL_isDrawing_L387b fL_isDrawing_L428 fL_isDrawing_L429
    rw [if_neg (show ¬ (9 : Int32) ≤ nI (s + 1) from fun z => by have := (nI_leI (by omega : 9 < 2 ^ 31) (by omega)).mp z; omega), if_neg n10, if_pos (m_k hS), z1, nTW_r, bi_some, apC_ok (hO.cl z3).2.2.2.1, e1, e2, nI_1 (s + 1), nI_1 a, if_neg (fun z => by have := (nI_ltI (by omega) (by omega)).mp z; omega), if_neg (fun z => by have := (nI_ltI (by omega) (by omega)).mp z; omega)]
theorem ok_isDrawing {q : Nat} (hfu : 100000000 ≤ fu) (hR : RelP K T V N n np G ne ew nw wp we wc wo W H) (hS : StX x K T V N n np G ne ew eo es nw wp we wc wo W H P.1) (hO : LOK P ac ap aw) (hq : q < np) (h10 : q < 10) : ∃ X1, fL_isDrawing fu P x ap (nI q) = some (1, (X1, sI (sI (sI (sI P.2 ap (20 + q) (nI (pga (G q)))) ap (30 + q) (nI (pgb (G q)))) ap (40 + q) (nI (pgc (G q) - pga (G q)))) ap (50 + q) (nI (pgd (G q) - pgb (G q))))) ∧ StX x K T V N n np G ne ew eo es nw wp we wc wo W H X1 ∧ Keeps9 P.1 X1 := by
  have hB := hR.2.1.2 q hq
  obtain ⟨s1, s2, s3, s4, s5, -⟩ := hB.steps
  obtain ⟨v1, v2, v3, v4⟩ := sbv_ok hB
  have hx := m_k hS
  have hk := hB.2.2.2.1
  have i0 := i_19 (fu := fu) (ap := ap) hR hS hq 256 0 (fu - 257) rfl
  rw [show fu - 257 + 256 + 1 = fu by omega] at i0
  have i0 : fL_isDrawing_L19 fu fu P x ap (nI q) (0 : Int32) (16 : Int32) (16 : Int32) (-1) (-1) (0 : Int32) = _ := i0
  unfold fL_isDrawing
  rw [i0, s4]
  -- the end, from the last row's store on
  have fin : ∀ (r h : Int32), ¬ (16 : Int32) ≤ r → ¬ (16 : Int32) ≤ h → ∃ X1, fL_isDrawing_L280 fu (P.1, sI (sI (sI P.2 ap (20 + q) (nI (pga (G q)))) ap (30 + q) (nI (pgb (G q)))) ap (40 + q) (nI (pgc (G q) - pga (G q)))) x (nI q) (nI (pgk (G q))) r h ap (nI (50 + q)) (nI (pgd (G q) - pgb (G q))) = some (1, (X1, sI (sI (sI (sI P.2 ap (20 + q) (nI (pga (G q)))) ap (30 + q) (nI (pgb (G q)))) ap (40 + q) (nI (pgc (G q) - pga (G q)))) ap (50 + q) (nI (pgd (G q) - pgb (G q))))) ∧ StX x K T V N n np G ne ew eo es nw wp we wc wo W H X1 ∧ Keeps9 P.1 X1 := by
    intro r h hr hh
    have hO4 : LOK (P.1, sI (sI (sI (sI P.2 ap (20 + q) (nI (pga (G q)))) ap (30 + q) (nI (pgb (G q)))) ap (40 + q) (nI (pgc (G q) - pga (G q)))) ap (50 + q) (nI (pgd (G q) - pgb (G q)))) ac ap aw := hO
    have l345 : ∃ X1, fL_isDrawing_L345 fu (P.1, sI (sI (sI (sI P.2 ap (20 + q) (nI (pga (G q)))) ap (30 + q) (nI (pgb (G q)))) ap (40 + q) (nI (pgc (G q) - pga (G q)))) ap (50 + q) (nI (pgd (G q) - pgb (G q)))) x (nI q) (nI (pgk (G q))) (nI (cC (pgF (G q)))) 0 = some (1, (X1, sI (sI (sI (sI P.2 ap (20 + q) (nI (pga (G q)))) ap (30 + q) (nI (pgb (G q)))) ap (40 + q) (nI (pgc (G q) - pga (G q)))) ap (50 + q) (nI (pgd (G q) - pgb (G q))))) ∧ StX x K T V N n np G ne ew eo es nw wp we wc wo W H X1 ∧ Keeps9 P.1 X1 := by
      generalize sI (sI (sI (sI P.2 ap (20 + q) (nI (pga (G q)))) ap (30 + q) (nI (pgb (G q)))) ap (40 + q) (nI (pgc (G q) - pga (G q)))) ap (50 + q) (nI (pgd (G q) - pgb (G q))) = Y at hO4
      obtain ⟨X1, z1, z2, z3⟩ := m_bySteps (ms := 0) hfu hS hR hq (by omega)
      have z1 : fX11_strokesBySteps fu P.1 x (nI q) 0 = some (.inr (sbv (G q) 0, X1)) := z1
      have hO1 := hO4.cl z3
      obtain ⟨X2, y1, y2, y3⟩ := m_bySteps (ms := 600) hfu z2 hR hq (by omega)
      have y1 : fX11_strokesBySteps fu X1 x (nI q) 600 = some (.inr (sbv (G q) 600, X2)) := y1
      have hO2 := hO1.cl y3
      obtain ⟨X3, u1, u2, u3⟩ := m_bySteps (ms := cC (pgF (G q))) hfu y2 hR hq s1
      have u1 : fX11_strokesBySteps fu X2 x (nI q) (nI (cC (pgF (G q)))) = some (.inr (sbv (G q) (cC (pgF (G q))), X3)) := u1
      have hO3 := hO2.cl u3
      obtain ⟨X4, w1, w2, w3⟩ := i_387 (q := q) hfu hR hq 8 0 (fu - 9) (X3, Y) rfl u2 hO3
      rw [show fu - 9 + 8 + 1 = fu by omega, v1] at w1
      refine ⟨X4, ?_, w2, z3.trans (y3.trans (u3.trans w3))⟩
      unfold fL_isDrawing_L345 fL_isDrawing_L382
      rw [if_pos hx, z1, nTW_r, bi_some, apC_ok hO1.2.2.2.1]
      dsimp only
      rw [if_pos v1, if_pos (m_k z2), y1, nTW_r, bi_some, apC_ok hO2.2.2.2.1]
      dsimp only
      rw [if_pos v2, if_pos (m_k y2), u1, nTW_r, bi_some, apC_ok hO3.2.2.2.1, if_pos v3]
      exact w1
    unfold fL_isDrawing_L280
    dsimp only
    rw [inb_sI, inb_sI, inb_sI, if_pos (hO.p (50 + q) (by omega)), if_pos hx, m_steps hS hR hq, nT_r, m_strokes hS hR hq, nT_r, if_pos rfl, if_neg (fun z => by have := (nI_ltI (by omega : 600 < 2 ^ 31) (by omega)).mp z; omega), if_neg (fun z => by have := (nI_ltI (by omega) (by omega)).mp z; omega), if_neg hr, if_neg hh, m_fault hS hR hq, nT_r, nI_clamp (by omega)]
    by_cases ef : cF (pgF (G q)) = 1
    · rw [if_pos ef, if_pos (by rw [s2 ef]; rfl)]
      exact l345
    · rw [if_neg ef]
      exact l345
  have e20 : (20 : Int32) + nI q = nI (20 + q) := nI_add 20 q
  have e30 : (30 : Int32) + nI q = nI (30 + q) := nI_add 30 q
  have e40 : (40 : Int32) + nI q = nI (40 + q) := nI_add 40 q
  have e50 : (50 : Int32) + nI q = nI (50 + q) := nI_add 50 q
  unfold fL_isDrawing_L19b
  rw [if_pos (show (256 : Int32) ≤ nI 256 by decide), e20]
  rcases hB.box with ⟨b1, b2, b3, b4, b5, b6⟩ | ⟨b1, b2, b3, b4, b5, b6⟩
  · rw [b2, b1, if_pos (show nI 0 = (0 : Int32) from rfl)]
    have f9 := fin (-1) (-1) (by decide) (by decide)
    rw [b1, b3, b4, b5, b6] at f9
    rw [b3, b4, b5, b6]
    unfold fL_isDrawing_L226 fL_isDrawing_L242 fL_isDrawing_L261
    dsimp only
    rw [if_pos (hO.p (20 + q) (by omega)), if_pos (show nI 0 = (0 : Int32) from rfl), e30, inb_sI, if_pos (hO.p (30 + q) (by omega)), if_pos (show nI 0 = (0 : Int32) from rfl), e40, inb_sI, inb_sI, if_pos (hO.p (40 + q) (by omega)), if_pos (show nI 0 = (0 : Int32) from rfl), e50, nI_clamp (by omega), nI_clamp (by omega), nI_clamp (by omega)]
    exact f9
  · have k0 : ¬ nI (pgk (G q)) = 0 := nI_ne0 b1 (by omega)
    have f9 := fin (nI (pgc (G q))) (nI (pgd (G q))) (fun z => by have := (nI_leI (by omega : 16 < 2 ^ 31) (by omega)).mp z; omega) (fun z => by have := (nI_leI (by omega : 16 < 2 ^ 31) (by omega)).mp z; omega)
    rw [b2, if_neg k0]
    unfold fL_isDrawing_L226 fL_isDrawing_L242 fL_isDrawing_L261
    dsimp only
    rw [if_pos (hO.p (20 + q) (by omega)), if_neg k0, e30, inb_sI, if_pos (hO.p (30 + q) (by omega)), if_neg k0, e40, inb_sI, inb_sI, if_pos (hO.p (40 + q) (by omega)), if_neg k0, e50, nI_clamp (by omega), nI_clamp (by omega), nI_clamp (by omega), pk_sub b3, pk_sub b4]
    exact f9
end ISD
