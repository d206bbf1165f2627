/-! isWall -/
section ISW
variable {fu x ac ap aw : Nat} {K T V N : Nat → Int32} {n np : Nat} {G : Nat → Pg} {ne : Nat} {ew : Nat → Nat} {eo es : Nat → Int32} {nw : Nat} {wp we : Nat → Nat} {wc : Nat → Int32} {wo : Nat → Option Nat} {W H : Nat} {P : LwP}
theorem FreshM.zm {X : Mem} (h : FreshM X) : FreshM (zM X (mZ X + 1)) := fun a ha => Nat.lt_succ_of_lt (h a ha)
theorem StX.zm {X : Mem} (h : StX x K T V N n np G ne ew eo es nw wp we wc wo W H X) : StX x K T V N n np G ne ew eo es nw wp we wc wo W H (zM X (mZ X + 1)) := ⟨h.1.zm, h.2⟩
theorem ok_isWall {a b : Nat} (hfu : 5000 ≤ fu) (ha : a < 2 ^ 31) (hb : b < 2 ^ 31) (h : LwS x ac ap aw n K T V N n np G ne ew eo es nw wp we wc wo W H P) : ∃ P', fL_isWall fu P x ac ap aw (nI a) (nI b) = some (1, P') ∧ LwS x ac ap aw n K T V N n np G ne ew eo es nw wp we wc wo W H P' := by
  obtain ⟨hS, hR, hO, hD, hI, hp, hw⟩ := h
  obtain ⟨i3, i4, i5, i6, i7, i8, i9, i10⟩ := id hI
  obtain ⟨pD, pP, pE, pW, hW0, hW, hH0, hH⟩ := id hR
  have nz : ∀ q t, mK P.2 q = some t → q ≠ mZ P.1 := fun q t e z => by
    have := hO.2.2.2.2 q (by rw [e]; exact fun z => nomatch z)
    omega
  have n1 := nz ac _ hO.1
  have n2 := nz ap _ hO.2.1
  have n3 := nz aw _ hO.2.2.1
  have kE : ∀ q, q ≠ mZ P.1 → mK (nA (zM P.2 (mZ P.1)) 2 40) q = mK P.2 q := fun q hq => if_neg hq
  have iE : ∀ q, q ≠ mZ P.1 → aI (nA (zM P.2 (mZ P.1)) 2 40) q = aI P.2 q := fun q hq => funext fun i => if_neg hq
  have kQ : mK (nA (zM P.2 (mZ P.1)) 2 40) (mZ P.1) = some (22, 40) := if_pos rfl
  have jQ : ∀ r, aJ (nA (zM P.2 (mZ P.1)) 2 40) (mZ P.1) r = 0 := fun r => if_pos rfl
  have hO2 : LOK (zM P.1 (mZ P.1 + 1), nA (zM P.2 (mZ P.1)) 2 40) ac ap aw := by
    obtain ⟨q1, q2, q3, q4, q5⟩ := hO
    refine ⟨(kE ac n1).trans q1, (kE ap n2).trans q2, (kE aw n3).trans q3, fun q hq => ?_, fun q hq => ?_⟩
    · by_cases e : q = mZ P.1
      · rw [e]
        show mK P.1 (mZ P.1) = none
        cases e9 : mK P.1 (mZ P.1) with
        | none => rfl
        | some v => exact absurd (hS.1 (mZ P.1) (by rw [e9]; exact fun z => nomatch z)) (Nat.lt_irrefl _)
      · exact q4 q (by rw [← kE q e]; exact hq)
    · show q < mZ P.1 + 1
      by_cases e : q = mZ P.1
      · omega
      · have := q5 q (by rw [← kE q e]; exact hq)
        omega
  have ec := iE ac n1
  have ep := iE ap n2
  have ew9 := iE aw n3
  unfold fL_isWall
  rw [bi_some, bi_some]
  generalize nA (zM P.2 (mZ P.1)) 2 40 = Y0 at kQ jQ hO2 ec ep ew9
  have hw0 : ¬ nI W = 0 := nI_ne0 hW0 (by omega)
  have hh0 : ¬ nI H = 0 := nI_ne0 hH0 (by omega)
  have em : nI a - nI a / nI W * nI W = nI (a % W) := pk_rem ha hW0 (by omega)
  have em2 : nI b - nI b / nI H * nI H = nI (b % H) := pk_rem hb hH0 (by omega)
  have eu : nI a - nI a / (3 : Int32) * (3 : Int32) = nI (a % 3) := pk_rem ha (by decide) (by decide)
  have hI2 : LIn np ne nw W H (aI Y0 ac) := by rw [ec]; exact hI
  have hp2 : LIp np G (aI Y0 ap) := by rw [ep]; exact hp
  have hw2 : LIw ne ew eo es nw wp we wc (aI Y0 aw) := by rw [ew9]; exact hw
  obtain ⟨Y', r1, r2, r3⟩ := wl_loop (u := a % 3) (cx := a % W) (cy := b % H) hfu hS.zm hR hO2 hI2 hp2 hw2 kQ eu (Nat.mod_lt _ (by decide)) (Nat.mod_lt _ hW0) (Nat.mod_lt _ hH0) nw 0 (fu - nw - 1) Y0 none (by omega) rfl rfl (fun r _ => jQ r) (fun j hj => absurd hj (Nat.not_lt_zero _))
  rw [show fu - nw - 1 + nw + 1 = fu by omega] at r1
  refine ⟨(zM P.1 (mZ P.1 + 1), Y'), ?_, hS.zm, hR, ?_, ?_, ?_, ?_, ?_⟩
  · have g6 : aI Y0 ac 6 = nI W := by rw [ec]; exact i6
    have g7 : aI Y0 ac 7 = nI H := by rw [ec]; exact i7
    rw [apC_ok hO2.2.2.2.1]
    dsimp only
    rw [if_pos hO2.c6, cl6, g6, if_neg hw0, if_pos hO2.c7, cl7, g7, if_neg hh0, em, em2]
    exact r1
  · obtain ⟨q1, q2, q3, q4, q5⟩ := hO2
    exact ⟨by show mK Y' ac = _; rw [r2]; exact q1, by show mK Y' ap = _; rw [r2]; exact q2, by show mK Y' aw = _; rw [r2]; exact q3, fun q hq => q4 q (by show mK Y0 q ≠ none; rw [← r2]; exact hq), fun q hq => q5 q (by show mK Y0 q ≠ none; rw [← r2]; exact hq)⟩
  · show LId n K T n (aI Y' ac)
    rw [r3, ec]
    exact hD
  · show LIn np ne nw W H (aI Y' ac)
    rw [r3]
    exact hI2
  · show LIp np G (aI Y' ap)
    rw [r3]
    exact hp2
  · show LIw ne ew eo es nw wp we wc (aI Y' aw)
    rw [r3]
    exact hw2
end ISW
