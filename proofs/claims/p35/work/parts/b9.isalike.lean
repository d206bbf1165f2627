/-! isAlike -/
def vD (g : Pg) (w X Y : Nat) : Int32 := if bit1 (if nI w = 0 then cR (pgF g) Y else cU (pgF g) Y) (nI X) = 1 then 1 else 0
theorem vD_eq {g g' : Pg} {w X Y X' Y' : Nat} : vD g w X Y = vD g' w X' Y' ↔ ((bit1 (if nI w = 0 then cR (pgF g) Y else cU (pgF g) Y) (nI X) = 1) ↔ (bit1 (if nI w = 0 then cR (pgF g') Y' else cU (pgF g') Y') (nI X') = 1)) := by
  unfold vD
  by_cases h1 : bit1 (if nI w = 0 then cR (pgF g) Y else cU (pgF g) Y) (nI X) = 1
  · by_cases h2 : bit1 (if nI w = 0 then cR (pgF g') Y' else cU (pgF g') Y') (nI X') = 1
    · rw [if_pos h1, if_pos h2]
      exact ⟨fun _ => ⟨fun _ => h2, fun _ => h1⟩, fun _ => rfl⟩
    · rw [if_pos h1, if_neg h2]
      exact ⟨fun q => absurd q (by decide), fun q => absurd (q.mp h1) h2⟩
  · by_cases h2 : bit1 (if nI w = 0 then cR (pgF g') Y' else cU (pgF g') Y') (nI X') = 1
    · rw [if_neg h1, if_pos h2]
      exact ⟨fun q => absurd q (by decide), fun q => absurd (q.mpr h2) h1⟩
    · rw [if_neg h1, if_neg h2]
      exact ⟨fun _ => ⟨fun q => absurd q h1, fun q => absurd q h2⟩, fun _ => rfl⟩
section ISA
variable {fu x ac ap aw : Nat} {K T V N : Nat → Int32} {n np : Nat} {G : Nat → Pg} {ne : Nat} {ew : Nat → Nat} {eo es : Nat → Int32} {nw : Nat} {wp we : Nat → Nat} {wc : Nat → Int32} {wo : Nat → Option Nat} {W H : Nat} {P : LwP}
theorem ia_151 {p q X Y w : Nat} {i : Int32} {rec53 : Nat → Nat → Int32 → Int32 → Int32 → Int32 → Option Int32} {rec109 : Nat → Nat → Int32 → Int32 → Int32 → Int32 → Int32 → Int32 → Int32 → Option Int32} (hS : StX x K T V N n np G ne ew eo es nw wp we wc wo W H P.1) (hR : RelP K T V N n np G ne ew nw wp we wc wo W H) (hO : LOK P ac ap aw) (h10 : np ≤ 10) (hp : LIp np G (aI P.2 ap)) (h1 : p < np) (h2 : q < np) (b1 : pga (G p) + X < 16) (b2 : pgb (G p) + Y < 16) (b3 : pga (G q) + X < 16) (b4 : pgb (G q) + Y < 16) (hw : w < 2) : fL_isAlike_L151 fu P rec53 rec109 x ap (nI p) (nI q) i (nI X) (nI Y) (nI w) x (nI p) (nI (pga (G p) + X)) (nI (pgb (G p) + Y)) (nI w) = rec109 x ap (nI p) (nI q) (if vD (G p) w (pga (G p) + X) (pgb (G p) + Y) = vD (G q) w (pga (G q) + X) (pgb (G q) + Y) then 1 else 0) i (nI X) (nI Y) (nI w + 1) := by
  have e20 : (20 : Int32) + nI q = nI (20 + q) := wr_ix 20 q rfl
  have e30 : (30 : Int32) + nI q = nI (30 + q) := wr_ix 30 q rfl
  obtain ⟨-, -, -, p2, p3, -, -⟩ := hp q h2
  have hv1 : fX11_isDrawn P.1 x (nI p) (nI (pga (G p) + X)) (nI (pgb (G p) + Y)) (nI w) = some (.inr (vD (G p) w (pga (G p) + X) (pgb (G p) + Y))) := m_isDrawn (u := nI w) hS hR h1 b1 b2
  have hv2 : fX11_isDrawn P.1 x (nI q) (nI (pga (G q) + X)) (nI (pgb (G q) + Y)) (nI w) = some (.inr (vD (G q) w (pga (G q) + X) (pgb (G q) + Y))) := m_isDrawn (u := nI w) hS hR h2 b3 b4
  have l185 : ∀ v : Int32, fL_isAlike_L185 fu P rec53 rec109 x ap (nI p) (nI q) i (nI X) (nI Y) (nI w) v x (nI q) (nI (pga (G q) + X)) (nI (pgb (G q) + Y)) (nI w) = rec109 x ap (nI p) (nI q) (if v = vD (G q) w (pga (G q) + X) (pgb (G q) + Y) then 1 else 0) i (nI X) (nI Y) (nI w + 1) := by
    intro v
    unfold fL_isAlike_L185
    rw [if_pos (m_k hS), hv2, nT_r]
    by_cases c : v = vD (G q) w (pga (G q) + X) (pgb (G q) + Y)
    · rw [if_pos c, if_pos c]
      rfl
    · rw [if_neg c, if_neg c]
      rfl
  unfold fL_isAlike_L151
  rw [if_pos (m_k hS), hv1, nT_r, e20, e30, if_pos (hO.p (20 + q) (by omega)), if_pos (hO.p (30 + q) (by omega)), nI_clamp (by omega), nI_clamp (by omega), p2, p3, nI_add, nI_add]
  have y := l185 (vD (G p) w (pga (G p) + X) (pgb (G p) + Y))
  by_cases ew : w = 0
  · subst ew
    rw [if_neg (show ¬ nI 0 = (1 : Int32) by decide)]
    exact y
  · have ew : w = 1 := by omega
    subst ew
    rw [if_pos (show nI 1 = (1 : Int32) by decide)]
    exact y
theorem ia_way {p q X Y w m : Nat} {i : Int32} {rec53 : Nat → Nat → Int32 → Int32 → Int32 → Int32 → Option Int32} (hS : StX x K T V N n np G ne ew eo es nw wp we wc wo W H P.1) (hR : RelP K T V N n np G ne ew nw wp we wc wo W H) (hO : LOK P ac ap aw) (h10 : np ≤ 10) (hp : LIp np G (aI P.2 ap)) (h1 : p < np) (h2 : q < np) (b1 : pga (G p) + X < 16) (b2 : pgb (G p) + Y < 16) (b3 : pga (G q) + X < 16) (b4 : pgb (G q) + Y < 16) (hw : w < 2) : fL_isAlike_L109 fu P rec53 (m + 1) x ap (nI p) (nI q) 1 i (nI X) (nI Y) (nI w) = fL_isAlike_L109 fu P rec53 m x ap (nI p) (nI q) (if vD (G p) w (pga (G p) + X) (pgb (G p) + Y) = vD (G q) w (pga (G q) + X) (pgb (G q) + Y) then 1 else 0) i (nI X) (nI Y) (nI w + 1) := by
  have e20 : (20 : Int32) + nI p = nI (20 + p) := wr_ix 20 p rfl
  have e30 : (30 : Int32) + nI p = nI (30 + p) := wr_ix 30 p rfl
  obtain ⟨-, -, -, p2, p3, -, -⟩ := hp p h1
  have y := ia_151 (i := i) (rec53 := rec53) (rec109 := fL_isAlike_L109 fu P rec53 m) (fu := fu) hS hR hO h10 hp h1 h2 b1 b2 b3 b4 hw
  show fL_isAlike_L109b fu P rec53 (fL_isAlike_L109 fu P rec53 m) x ap (nI p) (nI q) 1 i (nI X) (nI Y) (nI w) = _
  unfold fL_isAlike_L109b
  rw [if_neg (show ¬ (2 : Int32) ≤ nI w from fun z => by have := (nI_leI (by omega : 2 < 2 ^ 31) (by omega)).mp z; omega), if_neg n1z, e20, e30, if_pos (hO.p (20 + p) (by omega)), if_pos (hO.p (30 + p) (by omega)), nI_clamp (by omega), nI_clamp (by omega), p2, p3, nI_add, nI_add]
  by_cases ew : w = 0
  · subst ew
    rw [if_neg (show ¬ nI 0 = (1 : Int32) by decide)]
    exact y
  · have ew : w = 1 := by omega
    subst ew
    rw [if_pos (show nI 1 = (1 : Int32) by decide)]
    exact y
theorem ia_cell {p q X Y m : Nat} {i : Int32} {rec53 : Nat → Nat → Int32 → Int32 → Int32 → Int32 → Option Int32} (hS : StX x K T V N n np G ne ew eo es nw wp we wc wo W H P.1) (hR : RelP K T V N n np G ne ew nw wp we wc wo W H) (hO : LOK P ac ap aw) (h10 : np ≤ 10) (hp : LIp np G (aI P.2 ap)) (h1 : p < np) (h2 : q < np) (b1 : pga (G p) + X < 16) (b2 : pgb (G p) + Y < 16) (b3 : pga (G q) + X < 16) (b4 : pgb (G q) + Y < 16) : ∃ r, fL_isAlike_L109 fu P rec53 (m + 3) x ap (nI p) (nI q) 1 i (nI X) (nI Y) 0 = rec53 x ap (nI p) (nI q) r (i + 1) ∧ TF r (CE (G p) (G q) X Y) := by
  have w0 := ia_way (w := 0) (m := m + 2) (i := i) (rec53 := rec53) (fu := fu) hS hR hO h10 hp h1 h2 b1 b2 b3 b4 (by omega)
  have w1 := ia_way (w := 1) (m := m + 1) (i := i) (rec53 := rec53) (fu := fu) hS hR hO h10 hp h1 h2 b1 b2 b3 b4 (by omega)
  have fin : ∀ r : Int32, fL_isAlike_L109 fu P rec53 (m + 1) x ap (nI p) (nI q) r i (nI X) (nI Y) (nI 1 + 1) = rec53 x ap (nI p) (nI q) r (i + 1) := by
    intro r
    show fL_isAlike_L109b fu P rec53 (fL_isAlike_L109 fu P rec53 m) x ap (nI p) (nI q) r i (nI X) (nI Y) (nI 1 + 1) = _
    unfold fL_isAlike_L109b
    rw [if_pos (show (2 : Int32) ≤ nI 1 + 1 by decide)]
  have skip : fL_isAlike_L109 fu P rec53 (m + 2) x ap (nI p) (nI q) 0 i (nI X) (nI Y) (nI 0 + 1) = fL_isAlike_L109 fu P rec53 (m + 1) x ap (nI p) (nI q) 0 i (nI X) (nI Y) (nI 1 + 1) := by
    show fL_isAlike_L109b fu P rec53 (fL_isAlike_L109 fu P rec53 (m + 1)) x ap (nI p) (nI q) 0 i (nI X) (nI Y) (nI 0 + 1) = _
    unfold fL_isAlike_L109b
    rw [if_neg (show ¬ (2 : Int32) ≤ nI 0 + 1 by decide), if_pos rfl]
    rfl
  have i0 : ∀ a b : Int32, (if nI 0 = 0 then a else b) = a := fun a b => if_pos rfl
  have i1 : ∀ a b : Int32, (if nI 1 = 0 then a else b) = b := fun a b => if_neg (by decide)
  by_cases c0 : vD (G p) 0 (pga (G p) + X) (pgb (G p) + Y) = vD (G q) 0 (pga (G q) + X) (pgb (G q) + Y)
  · have d0 := vD_eq.mp c0
    rw [i0, i0] at d0
    rw [if_pos c0] at w0
    by_cases c1 : vD (G p) 1 (pga (G p) + X) (pgb (G p) + Y) = vD (G q) 1 (pga (G q) + X) (pgb (G q) + Y)
    · have d1 := vD_eq.mp c1
      rw [i1, i1] at d1
      rw [if_pos c1] at w1
      exact ⟨1, w0.trans (w1.trans (fin 1)), Or.inl ⟨rfl, d0, d1⟩⟩
    · rw [if_neg c1] at w1
      refine ⟨0, w0.trans (w1.trans (fin 0)), Or.inr ⟨rfl, fun z => c1 (vD_eq.mpr ?_)⟩⟩
      rw [i1, i1]
      exact z.2
  · rw [if_neg c0] at w0
    refine ⟨0, w0.trans (skip.trans (fin 0)), Or.inr ⟨rfl, fun z => c0 (vD_eq.mpr ?_)⟩⟩
    rw [i0, i0]
    exact z.1
theorem ia_loop {p q : Nat} (hfu : 5000 ≤ fu) (hS : StX x K T V N n np G ne ew eo es nw wp we wc wo W H P.1) (hR : RelP K T V N n np G ne ew nw wp we wc wo W H) (hO : LOK P ac ap aw) (h10 : np ≤ 10) (hp : LIp np G (aI P.2 ap)) (h1 : p < np) (h2 : q < np) (d1 : pgc (G p) - pga (G p) = pgc (G q) - pga (G q)) (d2 : pgd (G p) - pgb (G p) = pgd (G q) - pgb (G q)) : ∀ (t k m : Nat), k + t = (pgc (G p) - pga (G p) + 1) * (pgd (G p) - pgb (G p) + 1) → (∀ i, i < k → CE (G p) (G q) (i % (pgc (G p) - pga (G p) + 1)) (i / (pgc (G p) - pga (G p) + 1))) → ∃ r, fL_isAlike_L53 fu P (m + t + 1) x ap (nI p) (nI q) 1 (nI k) = some r ∧ TF r (∀ i, i < (pgc (G p) - pga (G p) + 1) * (pgd (G p) - pgb (G p) + 1) → CE (G p) (G q) (i % (pgc (G p) - pga (G p) + 1)) (i / (pgc (G p) - pga (G p) + 1))) := by
  have pP := hR.2.1
  have hb : pga (G p) ≤ 15 ∧ pgb (G p) ≤ 15 ∧ pga (G p) ≤ pgc (G p) ∧ pgb (G p) ≤ pgd (G p) ∧ pgc (G p) ≤ 15 ∧ pgd (G p) ≤ 15 := by
    rcases (show GB (G p) from pP.2 p h1).box with z | z <;> omega
  have hb' : pga (G q) ≤ 15 ∧ pgb (G q) ≤ 15 ∧ pga (G q) ≤ pgc (G q) ∧ pgb (G q) ≤ pgd (G q) ∧ pgc (G q) ≤ 15 ∧ pgd (G q) ≤ 15 := by
    rcases (show GB (G q) from pP.2 q h2).box with z | z <;> omega
  obtain ⟨-, -, -, -, -, p4, p5⟩ := hp p h1
  have e40 : (40 : Int32) + nI p = nI (40 + p) := wr_ix 40 p rfl
  have e50 : (50 : Int32) + nI p = nI (50 + p) := wr_ix 50 p rfl
  have hlt : (pgc (G p) - pga (G p) + 1) * (pgd (G p) - pgb (G p) + 1) ≤ 16 * 16 := Nat.mul_le_mul (by omega) (by omega)
  have hw0 : 0 < pgc (G p) - pga (G p) + 1 := by omega
  have hw1 : pgc (G p) - pga (G p) + 1 ≤ 16 := by omega
  generalize hW : pgc (G p) - pga (G p) + 1 = W1 at hlt hw0 hw1
  generalize hH : pgd (G p) - pgb (G p) + 1 = H1 at hlt
  have eW : nI (pgc (G p) - pga (G p)) + 1 = nI W1 := by rw [nI_1, hW]
  have eH : nI (pgd (G p) - pgb (G p)) + 1 = nI H1 := by rw [nI_1, hH]
  intro t
  induction t with
  | zero =>
    intro k m hk hj
    have hk : k = W1 * H1 := hk
    subst hk
    show ∃ r, fL_isAlike_L53b fu P (fL_isAlike_L53 fu P m) x ap (nI p) (nI q) 1 (nI (W1 * H1)) = some r ∧ _
    unfold fL_isAlike_L53b
    rw [e40, e50, if_pos (hO.p (40 + p) (by omega)), if_pos (hO.p (50 + p) (by omega)), nI_clamp (by omega), nI_clamp (by omega), p4, p5, eW, eH, pk_mul, if_pos (Int32.le_refl _), if_pos (Or.inr rfl)]
    exact ⟨1, rfl, Or.inl ⟨rfl, hj⟩⟩
  | succ t ih =>
    intro k m hk hj
    have hkn : k < W1 * H1 := by omega
    have hx : k % W1 < W1 := Nat.mod_lt _ hw0
    have hy : k / W1 < H1 := Nat.div_lt_of_lt_mul hkn
    have em : nI k - nI k / nI W1 * nI W1 = nI (k % W1) := pk_rem (by omega) hw0 (by omega)
    have ed : nI k / nI W1 = nI (k / W1) := pk_div (by omega) hw0 (by omega)
    obtain ⟨r, a1, a2⟩ := ia_cell (X := k % W1) (Y := k / W1) (m := fu - 3) (i := nI k) (rec53 := fL_isAlike_L53 fu P (m + (t + 1))) (fu := fu) hS hR hO h10 hp h1 h2 (by omega) (by omega) (by omega) (by omega)
    rw [show fu - 3 + 3 = fu by omega, nI_1] at a1
    show ∃ r, fL_isAlike_L53b fu P (fL_isAlike_L53 fu P (m + (t + 1))) x ap (nI p) (nI q) 1 (nI k) = some r ∧ _
    unfold fL_isAlike_L53b
    rw [e40, e50, if_pos (hO.p (40 + p) (by omega)), if_pos (hO.p (50 + p) (by omega)), nI_clamp (by omega), nI_clamp (by omega), p4, p5, eW, eH, pk_mul, if_neg (show ¬ nI (W1 * H1) ≤ nI k from fun z => by have := (nI_leI (by omega) (by omega)).mp z; omega), if_neg n1z, if_pos (hO.p (40 + p) (by omega)), if_neg (show ¬ nI W1 = 0 from fun z => by have := (nI_eq (by omega) (by omega : 0 < 2 ^ 31)).mp z; omega), if_pos (hO.p (40 + p) (by omega)), if_neg (show ¬ nI W1 = 0 from fun z => by have := (nI_eq (by omega) (by omega : 0 < 2 ^ 31)).mp z; omega), em, ed, a1]
    rcases a2 with ⟨rfl, a2⟩ | ⟨rfl, a2⟩
    · rw [show m + (t + 1) = m + t + 1 by omega]
      refine ih (k + 1) m (by omega) (fun i hi => ?_)
      by_cases e : i = k
      · rw [e]
        exact a2
      · exact hj i (by omega)
    · refine ⟨0, ?_, Or.inr ⟨rfl, fun z => a2 (z k hkn)⟩⟩
      show fL_isAlike_L53b fu P (fL_isAlike_L53 fu P (m + t)) x ap (nI p) (nI q) 0 (nI (k + 1)) = _
      unfold fL_isAlike_L53b
      rw [e40, e50, if_pos (hO.p (40 + p) (by omega)), if_pos (hO.p (50 + p) (by omega)), if_pos rfl, if_pos (Or.inl rfl)]
      split <;> rfl
theorem ok_isAlike {p q : Nat} (hfu : 5000 ≤ fu) (hS : StX x K T V N n np G ne ew eo es nw wp we wc wo W H P.1) (hR : RelP K T V N n np G ne ew nw wp we wc wo W H) (hO : LOK P ac ap aw) (h10 : np ≤ 10) (hp : LIp np G (aI P.2 ap)) (h1 : p < np) (h2 : q < np) : ∃ r, fL_isAlike fu P x ap (nI p) (nI q) = some r ∧ TF r (AlG (G p) (G q)) := by
  have pP := hR.2.1
  have g1 : GB (G p) := pP.2 p h1
  have g2 : GB (G q) := pP.2 q h2
  have hb := g1.lim
  have hb' := g2.lim
  have k1 : pgk (G p) ≤ 600 := g1.2.2.2.1
  have k2 : pgk (G q) ≤ 600 := g2.2.2.2.1
  obtain ⟨-, -, -, -, -, p4, p5⟩ := hp p h1
  obtain ⟨-, -, -, -, -, q4, q5⟩ := hp q h2
  have e40 : (40 : Int32) + nI p = nI (40 + p) := wr_ix 40 p rfl
  have e50 : (50 : Int32) + nI p = nI (50 + p) := wr_ix 50 p rfl
  have f40 : (40 : Int32) + nI q = nI (40 + q) := wr_ix 40 q rfl
  have f50 : (50 : Int32) + nI q = nI (50 + q) := wr_ix 50 q rfl
  have l47 : ¬ AlL (G p) (G q) → ∃ r, fL_isAlike_L47 fu P x ap (nI p) (nI q) = some r ∧ TF r (AlG (G p) (G q)) := by
    intro hn
    refine ⟨0, ?_, Or.inr ⟨rfl, fun z => hn ((AlL_iff g1 g2).mp z)⟩⟩
    show fL_isAlike_L53 fu P fu x ap (nI p) (nI q) 0 0 = _
    rw [show fu = fu - 1 + 1 by omega]
    show fL_isAlike_L53b (fu - 1 + 1) P (fL_isAlike_L53 (fu - 1 + 1) P (fu - 1)) x ap (nI p) (nI q) 0 0 = _
    unfold fL_isAlike_L53b
    rw [e40, e50, if_pos (hO.p (40 + p) (by omega)), if_pos (hO.p (50 + p) (by omega)), if_pos rfl, if_pos (Or.inl rfl)]
    split <;> rfl
  unfold fL_isAlike
  rw [if_pos (m_k hS), m_strokes hS hR h1, nT_r, m_strokes hS hR h2, nT_r]
  by_cases c1 : nI (pgk (G p)) = nI (pgk (G q))
  · rw [if_pos c1, e40, f40, if_pos (hO.p (40 + p) (by omega)), if_pos (hO.p (40 + q) (by omega)), nI_clamp (by omega), nI_clamp (by omega), p4, q4]
    by_cases c2 : nI (pgc (G p) - pga (G p)) = nI (pgc (G q) - pga (G q))
    · rw [if_pos c2, e50, f50, if_pos (hO.p (50 + p) (by omega)), if_pos (hO.p (50 + q) (by omega)), nI_clamp (by omega), nI_clamp (by omega), p5, q5]
      by_cases c3 : nI (pgd (G p) - pgb (G p)) = nI (pgd (G q) - pgb (G q))
      · have d1 := (nI_eq (by omega) (by omega)).mp c1
        have d2 := (nI_eq (by omega) (by omega)).mp c2
        have d3 := (nI_eq (by omega) (by omega)).mp c3
        have hlt : (pgc (G p) - pga (G p) + 1) * (pgd (G p) - pgb (G p) + 1) ≤ 17 * 17 := Nat.mul_le_mul (by omega) (by omega)
        obtain ⟨r, a1, a2⟩ := ia_loop hfu hS hR hO h10 hp h1 h2 d2 d3 ((pgc (G p) - pga (G p) + 1) * (pgd (G p) - pgb (G p) + 1)) 0 (fu - 1 - (pgc (G p) - pga (G p) + 1) * (pgd (G p) - pgb (G p) + 1)) (by omega) (fun i hi => absurd hi (Nat.not_lt_zero _))
        rw [show fu - 1 - (pgc (G p) - pga (G p) + 1) * (pgd (G p) - pgb (G p) + 1) + (pgc (G p) - pga (G p) + 1) * (pgd (G p) - pgb (G p) + 1) + 1 = fu by omega] at a1
        rw [if_pos c3]
        exact ⟨r, a1, a2.cg ⟨fun z => (AlL_iff g1 g2).mpr ⟨d1, d2, d3, z⟩, fun z => ((AlL_iff g1 g2).mp z).2.2.2⟩⟩
      · rw [if_neg c3]
        exact l47 (fun z => c3 (by rw [z.2.2.1]))
    · rw [if_neg c2]
      exact l47 (fun z => c2 (by rw [z.2.1]))
  · rw [if_neg c1]
    exact l47 (fun z => c1 (by rw [z.1]))
end ISA
