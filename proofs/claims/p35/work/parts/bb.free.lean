/-! the law's own wall: is a rectangle free -/
section FRE
variable {fu ac aq W H w h x y : Nat} {P : LwP} {rows : Nat → Int64}
theorem inb_q {P : LwP} {aq r : Nat} (hq : mK P.2 aq = some (22, 40)) (hr : r < 40) : inb P.2 2 aq (nI r) = true := inb_of (t := 2) hq hr (by omega)
theorem l_free32 (hw : w < 18) (hx : x + w < 46) (hy : y + h ≤ 40) (hq : mK P.2 aq = some (22, 40)) (hr : ∀ r, r < 40 → aJ P.2 aq r = rows r) : ∀ (t r m : Nat), r + t = y + h → ∃ v, fL_isFree_L32 fu P (m + t + 1) aq (nI x) (nI y) (nI w) (nI h) 1 (nI r) = some v ∧ TF v (∀ r', r ≤ r' → r' < y + h → FrRow (rows r') x w) := by
  intro t
  induction t with
  | zero =>
    intro r m hr9
    have hr9 : r = y + h := hr9
    refine ⟨1, ?_, Or.inl ⟨rfl, fun r' a b => by omega⟩⟩
    show fL_isFree_L32b fu P (fL_isFree_L32 fu P m) aq (nI x) (nI y) (nI w) (nI h) 1 (nI r) = _
    unfold fL_isFree_L32b
    rw [nI_add, hr9, if_pos (Int32.le_refl _), if_pos (Or.inr rfl)]
  | succ t ih =>
    intro r m hr9
    show ∃ v, fL_isFree_L32b fu P (fL_isFree_L32 fu P (m + t + 1)) aq (nI x) (nI y) (nI w) (nI h) 1 (nI r) = some v ∧ _
    unfold fL_isFree_L32b fL_isFree_L69
    rw [nI_add, if_neg (fun q => by have := (nI_leI (by omega) (by omega)).mp q; omega), if_neg (by decide), if_pos (inb_q hq (by omega : r < 40)), nI_clamp (by omega), hr r (by omega), nI_1]
    have hc : lg_cmp ((rows r >>> ((nI x).toInt64 &&& 63)) &&& maskB w) 0 = 0 ↔ FrRow (rows r) x w := (lg_cmp_eq _ _).trans (fr_shr hw hx)
    by_cases e : FrRow (rows r) x w
    · obtain ⟨v, z1, z2⟩ := ih (r + 1) m (by omega)
      refine ⟨v, (if_pos (hc.mpr e)).trans z1, z2.cg ⟨fun q r' a b => ?_, fun q r' a b => q r' (by omega) b⟩⟩
      by_cases er : r' = r
      · rw [er]; exact e
      · exact q r' (by omega) b
    · refine ⟨0, (if_neg (fun q => e (hc.mp q))).trans ?_, Or.inr ⟨rfl, fun q => e (q r (Nat.le_refl r) (by omega))⟩⟩
      show fL_isFree_L32b fu P (fL_isFree_L32 fu P (m + t)) aq (nI x) (nI y) (nI w) (nI h) 0 (nI (r + 1)) = _
      unfold fL_isFree_L32b
      rw [if_pos (show (0 : Int32) = 0 ∨ (0 : Int32) = 1 from Or.inl rfl)]
      split
      · rfl
      · rw [if_pos rfl]
theorem l_free0 {a b c d : Int32} (hfu : 1 ≤ fu) : fL_isFree_L26 fu P aq a b c d = some 0 := by
  obtain ⟨f, rfl⟩ : ∃ f, fu = f + 1 := ⟨fu - 1, by omega⟩
  unfold fL_isFree_L26 fL_isFree_L27
  show fL_isFree_L32b (f + 1) P (fL_isFree_L32 (f + 1) P f) aq a b c d 0 b = _
  unfold fL_isFree_L32b
  rw [if_pos (show (0 : Int32) = 0 ∨ (0 : Int32) = 1 from Or.inl rfl)]
  split
  · rfl
  · rw [if_pos rfl]
theorem l_isFree {ap aw : Nat} (hfu : 100 ≤ fu) (hw : w < 18) (hh : h < 18) (hW : W ≤ 40) (hH : H ≤ 40) (hx : x < 40) (hy : y < 40) (hO : LOK P ac ap aw) (h1 : aI P.2 ac 6 = nI W) (h2 : aI P.2 ac 7 = nI H) (hq : mK P.2 aq = some (22, 40)) (hr : ∀ r, r < 40 → aJ P.2 aq r = rows r) : ∃ v, fL_isFree fu P ac aq (nI x) (nI y) (nI w) (nI h) = some v ∧ TF v (FitP rows W H w h x y) := by
  unfold fL_isFree
  rw [if_pos hO.c6, if_pos hO.c7, cl6, cl7, h1, h2, nI_add, nI_add, l_free0 (by omega)]
  by_cases e1 : W < x + w
  · rw [if_pos ((nI_ltI (by omega) (by omega)).mpr e1)]
    exact ⟨0, rfl, Or.inr ⟨rfl, fun q => by have := q.1; omega⟩⟩
  · rw [if_neg (fun q => e1 ((nI_ltI (by omega) (by omega)).mp q))]
    by_cases e2 : H < y + h
    · rw [if_pos ((nI_ltI (by omega) (by omega)).mpr e2)]
      exact ⟨0, rfl, Or.inr ⟨rfl, fun q => by have := q.2.1; omega⟩⟩
    · rw [if_neg (fun q => e2 ((nI_ltI (by omega) (by omega)).mp q))]
      obtain ⟨v, z1, z2⟩ := l_free32 (fu := fu) (h := h) (y := y) hw (by omega : x + w < 46) (by omega) hq hr h y (fu - h - 1) rfl
      rw [show fu - h - 1 + h + 1 = fu by omega] at z1
      exact ⟨v, z1, z2.cg ⟨fun q => ⟨by omega, by omega, fun r a b => q r a b⟩, fun q r a b => q.2.2 r a b⟩⟩
end FRE
section FND
variable {fu x ac ap aw aq W H w h : Nat} {P : LwP} {rows : Nat → Int64} {rec36 : LwP → Nat → Nat → Nat → Nat → Int32 → Nat → Int32 → Int32 → Int32 → Int32 → Int32 → Int32 → Option (Int32 × LwP)} {x4 x7 x8 x9 x10 x13 x14 : Int32} {k : Nat}
/-- the first place that fits -/
theorem l_find (hfu : 100 ≤ fu) (hw : w < 18) (hh : h < 18) (hW0 : 0 < W) (hW : W ≤ 40) (hH : H ≤ 40) (hO : LOK P ac ap aw) (h1 : aI P.2 ac 6 = nI W) (h2 : aI P.2 ac 7 = nI H) (hq : mK P.2 aq = some (22, 40)) (hr : ∀ r, r < 40 → aJ P.2 aq r = rows r) (hk : k < 10) (h13 : ¬ x13 = 0) (h14 : x14 = -1 ∨ aI P.2 aw (32 + k) = 1) : ∀ (t j m : Nat), j + t = W * H → (∀ i, i < j → ¬ FitK rows W H w h i) → ∃ o, FF (FitK rows W H w h) (W * H) o ∧ fL_isWall_L108 fu rec36 (m + t + 2) P x ac ap aw x4 aq x7 x8 x9 x10 (nI k) x13 x14 (-1) (nI w) (nI h) (nI j) = fL_isWall_L191 fu rec36 P x ac ap aw x4 aq x7 x8 x9 x10 (nI k) x13 x14 (oW o) (nI w) (nI h) := by
  have hWH : W * H ≤ 1600 := Nat.mul_le_mul hW hH
  have e32 : (32 : Int32) + nI k = nI (32 + k) := wr_ix 32 k rfl
  intro t
  induction t with
  | zero =>
    intro j m hj hn
    have hj : j = W * H := hj
    subst hj
    refine ⟨none, hn, ?_⟩
    show fL_isWall_L108b fu rec36 (fL_isWall_L108 fu rec36 (m + 1)) P x ac ap aw x4 aq x7 x8 x9 x10 (nI k) x13 x14 (-1) (nI w) (nI h) (nI (W * H)) = _
    unfold fL_isWall_L108b
    rw [if_pos hO.c6, if_pos hO.c7, cl6, cl7, h1, h2, pk_mul, if_pos (Int32.le_refl _)]
    rfl
  | succ t ih =>
    intro j m hj hn
    have hjl : j < W * H := by omega
    have hx : j % W < W := Nat.mod_lt _ hW0
    have hy : j / W < H := Nat.div_lt_of_lt_mul hjl
    have ed : nI j / nI W = nI (j / W) := pk_div (by omega) hW0 (by omega)
    have em : nI j - nI j / nI W * nI W = nI (j % W) := pk_rem (by omega) hW0 (by omega)
    have hw0 : ¬ nI W = 0 := nI_ne0 hW0 (by omega)
    obtain ⟨v, v1, v2⟩ := l_isFree (fu := fu) hfu hw hh hW hH (by omega : j % W < 40) (by omega : j / W < 40) hO h1 h2 hq hr
    have l150 : ∃ o, FF (FitK rows W H w h) (W * H) o ∧ fL_isWall_L150 fu rec36 (fL_isWall_L108 fu rec36 (m + t + 2)) P x ac ap aw x4 aq x7 x8 x9 x10 (nI k) x13 x14 (nI w) (nI h) (nI j) = fL_isWall_L191 fu rec36 P x ac ap aw x4 aq x7 x8 x9 x10 (nI k) x13 x14 (oW o) (nI w) (nI h) := by
      unfold fL_isWall_L150 fL_isWall_L183
      rw [if_pos hO.c6, cl6, h1, if_neg hw0, if_pos hO.c6, if_neg hw0, em, ed, v1, bi_some]
      rcases v2 with ⟨rfl, v2⟩ | ⟨rfl, v2⟩
      · rw [if_neg n1z, nI_1]
        refine ⟨some j, ⟨hjl, v2, hn⟩, ?_⟩
        show fL_isWall_L108b fu rec36 (fL_isWall_L108 fu rec36 (m + t + 1)) P x ac ap aw x4 aq x7 x8 x9 x10 (nI k) x13 x14 (nI j) (nI w) (nI h) (nI (j + 1)) = _
        unfold fL_isWall_L108b
        rw [if_pos hO.c6, if_pos hO.c7]
        have ne1 : ¬ nI j = -1 := nI_nm1 (by omega)
        rw [if_neg ne1]
        split <;> rfl
      · rw [if_pos rfl, nI_1]
        refine ih (j + 1) m (by omega) (fun i hi q => ?_)
        by_cases e : i = j
        · rw [e] at q; exact v2 q
        · exact hn i (by omega) q
    obtain ⟨o, o1, o2⟩ := l150
    refine ⟨o, o1, ?_⟩
    rw [← o2]
    show fL_isWall_L108b fu rec36 (fL_isWall_L108 fu rec36 (m + t + 2)) P x ac ap aw x4 aq x7 x8 x9 x10 (nI k) x13 x14 (-1) (nI w) (nI h) (nI j) = _
    unfold fL_isWall_L108b
    rw [if_pos hO.c6, if_pos hO.c7, cl6, cl7, h1, h2, pk_mul, if_neg (fun q => by have := (nI_leI (by omega) (by omega)).mp q; omega), if_pos rfl, if_neg h13, e32, if_pos (hO.w (32 + k) (by omega)), nI_clamp (by omega)]
    rcases h14 with q | q
    · rw [if_pos q]
    · rw [if_pos q]
      split <;> rfl
theorem l_nofind (hfu : 100 ≤ fu) (hW0 : 0 < W) (hW : W ≤ 40) (hH0 : 0 < H) (hH : H ≤ 40) (hO : LOK P ac ap aw) (h1 : aI P.2 ac 6 = nI W) (h2 : aI P.2 ac 7 = nI H) (hk : k < 10) (h13 : x13 = 0 ∨ (¬ x14 = -1 ∧ ¬ aI P.2 aw (32 + k) = 1)) : fL_isWall_L108 fu rec36 fu P x ac ap aw x4 aq x7 x8 x9 x10 (nI k) x13 x14 (-1) (nI w) (nI h) 0 = fL_isWall_L191 fu rec36 P x ac ap aw x4 aq x7 x8 x9 x10 (nI k) x13 x14 (-1) (nI w) (nI h) := by
  have hWH : W * H ≤ 1600 := Nat.mul_le_mul hW hH
  have hWH0 : 0 < W * H := Nat.mul_pos hW0 hH0
  have e32 : (32 : Int32) + nI k = nI (32 + k) := wr_ix 32 k rfl
  obtain ⟨f, rfl⟩ : ∃ f, fu = f + 1 := ⟨fu - 1, by omega⟩
  show fL_isWall_L108b (f + 1) rec36 (fL_isWall_L108 (f + 1) rec36 f) P x ac ap aw x4 aq x7 x8 x9 x10 (nI k) x13 x14 (-1) (nI w) (nI h) 0 = _
  unfold fL_isWall_L108b
  rw [if_pos hO.c6, if_pos hO.c7, cl6, cl7, h1, h2, pk_mul, if_neg (show ¬ nI (W * H) ≤ 0 from fun q => by have := (nI_leI (by omega) (by omega : 0 < 2 ^ 31)).mp q; omega), if_pos rfl]
  by_cases c : x13 = 0
  · rw [if_pos c]
  · obtain ⟨c1, c2⟩ := h13.resolve_left c
    rw [if_neg c, if_neg c1, e32, if_pos (hO.w (32 + k) (by omega)), nI_clamp (by omega), if_neg c2]
/-- its cells are taken -/
theorem l_take {o : Option Nat} (hW0 : 0 < W) (hW : W ≤ 40) (hO : LOK P ac ap aw) (hq : mK P.2 aq = some (22, 40)) (h1 : aI P.2 ac 6 = nI W) (ho : ∀ j, o = some j → j < 1600 ∧ j / W + h ≤ 40) (hh : h < 18) : ∀ (t r m : Nat) (Y : Mem), r + t = h → mK Y = mK P.2 → aI Y = aI P.2 → ∃ Y', fL_isWall_L194 fu rec36 (m + t + 1) (P.1, Y) x ac ap aw x4 aq x7 x8 x9 x10 (nI k) x13 x14 (oW o) (nI w) (nI h) (nI r) = fL_isWall_L242 fu rec36 (P.1, Y') x ac ap aw x4 aq x7 x8 x9 x10 (nI k) x13 x14 (oW o) (nI w) (nI h) ∧ mK Y' = mK P.2 ∧ aI Y' = aI P.2 ∧ ∀ r', aJ Y' aq r' = match o with
    | none => aJ Y aq r'
    | some j => if j / W + r ≤ r' ∧ r' < j / W + h then aJ Y aq r' ||| shB (maskB w) (j % W) else aJ Y aq r' := by
  intro t
  induction t with
  | zero =>
    intro r m Y hr e1 e2
    have hr : r = h := hr
    subst hr
    refine ⟨Y, ?_, e1, e2, fun r' => ?_⟩
    · show fL_isWall_L194b fu rec36 (fL_isWall_L194 fu rec36 m) (P.1, Y) x ac ap aw x4 aq x7 x8 x9 x10 (nI k) x13 x14 (oW o) (nI w) (nI r) (nI r) = _
      unfold fL_isWall_L194b
      rw [if_pos (Int32.le_refl _)]
    · cases o with
      | none => rfl
      | some j => exact (if_neg (by omega)).symm
  | succ t ih =>
    intro r m Y hr e1 e2
    have hrl : ¬ nI h ≤ nI r := fun q => by have := (nI_leI (by omega) (by omega)).mp q; omega
    cases o with
    | none =>
      refine ⟨Y, ?_, e1, e2, fun r' => rfl⟩
      show fL_isWall_L194b fu rec36 (fL_isWall_L194 fu rec36 (m + t + 1)) (P.1, Y) x ac ap aw x4 aq x7 x8 x9 x10 (nI k) x13 x14 (-1) (nI w) (nI h) (nI r) = _
      unfold fL_isWall_L194b
      rw [if_neg hrl, if_pos (by decide)]
      rfl
    | some j =>
      obtain ⟨o1, o2⟩ := ho j rfl
      have ed : nI j / nI W = nI (j / W) := pk_div (by omega) hW0 (by omega)
      have em : nI j - nI j / nI W * nI W = nI (j % W) := pk_rem (by omega) hW0 (by omega)
      have hw0 : ¬ nI W = 0 := nI_ne0 hW0 (by omega)
      have g1 : aI Y ac 6 = nI W := by rw [e2]; exact h1
      have hO' : LOK (P.1, Y) ac ap aw := by
        obtain ⟨q1, q2, q3, q4, q5⟩ := hO
        exact ⟨by rw [e1]; exact q1, by rw [e1]; exact q2, by rw [e1]; exact q3, fun a ha => q4 a (by rw [← e1]; exact ha), fun a ha => q5 a (by rw [← e1]; exact ha)⟩
      have hq' : mK Y aq = some (22, 40) := by rw [e1]; exact hq
      have hi : inb Y 2 aq (nI (j / W + r)) = true := inb_q (P := (P.1, Y)) hq' (by omega)
      obtain ⟨Y', z1, z2, z3, z4⟩ := ih (r + 1) m (sJ Y aq (j / W + r) (aJ Y aq (j / W + r) ||| shB (maskB w) (j % W))) (by omega) e1 e2
      refine ⟨Y', ?_, z2, z3, fun r' => ?_⟩
      · show fL_isWall_L194b fu rec36 (fL_isWall_L194 fu rec36 (m + t + 1)) (P.1, Y) x ac ap aw x4 aq x7 x8 x9 x10 (nI k) x13 x14 (nI j) (nI w) (nI h) (nI r) = _
        have hnn : ¬ nI j < 0 := fun q => by have := (nI_ltI (by omega) (by omega : 0 < 2 ^ 31)).mp q; omega
        unfold fL_isWall_L194b
        rw [if_neg hrl, if_neg hnn]
        dsimp only
        rw [if_pos hO'.c6, cl6, g1, if_neg hw0, em, ed, nI_add, if_pos hi, nI_clamp (by omega), nI_1]
        rw [if_pos hO'.c6, if_neg hw0, if_pos hi]
        exact z1
      · refine (z4 r').trans ?_
        show (if j / W + (r + 1) ≤ r' ∧ r' < j / W + h then aJ (sJ Y aq (j / W + r) _) aq r' ||| shB (maskB w) (j % W) else aJ (sJ Y aq (j / W + r) _) aq r') = if j / W + r ≤ r' ∧ r' < j / W + h then aJ Y aq r' ||| shB (maskB w) (j % W) else aJ Y aq r'
        rw [aJ_sJ]
        by_cases e : r' = j / W + r
        · rw [if_neg (by omega), if_pos ⟨rfl, e⟩, if_pos (by omega), e]
        · rw [if_neg (show ¬ (aq = aq ∧ r' = j / W + r) from fun q => e q.2)]
          by_cases e9 : j / W + (r + 1) ≤ r' ∧ r' < j / W + h
          · rw [if_pos e9, if_pos (by omega)]
          · rw [if_neg e9, if_neg (by omega)]
end FND
