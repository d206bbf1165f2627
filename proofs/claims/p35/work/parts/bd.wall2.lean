section WLP
variable {fu x ac ap aw aq : Nat} {K T V N : Nat → Int32} {n np : Nat} {G : Nat → Pg} {ne : Nat} {ew : Nat → Nat} {eo es : Nat → Int32} {nw : Nat} {wp we : Nat → Nat} {wc : Nat → Int32} {wo : Nat → Option Nat} {W H : Nat} {P : LwP} {x4 x7 x8 : Int32} {k u cx cy : Nat} {rec36 : LwP → Nat → Nat → Nat → Nat → Int32 → Nat → Int32 → Int32 → Int32 → Int32 → Int32 → Int32 → Option (Int32 × LwP)} {x9 x10 : Int32}
/-- where a work hangs, and what is taken then -/
theorem wl_place {v : Int32} (hfu : 5000 ≤ fu) (hR : RelP K T V N n np G ne ew nw wp we wc wo W H) (hO : LOK P ac ap aw) (hI : LIn np ne nw W H (aI P.2 ac)) (hw : LIw ne ew eo es nw wp we wc (aI P.2 aw)) (hk : k < nw) (hv : TF v (MtG G ew eo es wp we k)) (hq : mK P.2 aq = some (22, 40)) (hr : ∀ r, r < 40 → aJ P.2 aq r = (layB W H (wdG G wp) (hgG G wp) (okG G ew eo es wp we wc wo) k).1 r) : ∃ Y', fL_isWall_L108 fu rec36 fu P x ac ap aw x4 aq x7 x8 x9 x10 (nI k) v (oW (wo k)) (-1) (nI (wdG G wp k)) (nI (hgG G wp k)) 0 = fL_isWall_L242 fu rec36 (P.1, Y') x ac ap aw x4 aq x7 x8 x9 x10 (nI k) v (oW (wo k)) (oW (layG W H G ew eo es wp we wc wo nw k)) (nI (wdG G wp k)) (nI (hgG G wp k)) ∧ mK Y' = mK P.2 ∧ aI Y' = aI P.2 ∧ (∀ r, r < 40 → aJ Y' aq r = (layB W H (wdG G wp) (hgG G wp) (okG G ew eo es wp we wc wo) (k + 1)).1 r) ∧ ∀ j, layG W H G ew eo es wp we wc wo nw k = some j → j < 1600 := by
  obtain ⟨i3, i4, i5, i6, i7, i8, i9, i10⟩ := hI
  obtain ⟨pD, pP, pE, pW, hW0, hW, hH0, hH⟩ := id hR
  obtain ⟨v1, v2, v3⟩ := pW.2.1 k hk
  have lim := (pP.2 _ v1).lim
  have hwd : wdG G wp k < 18 := by unfold wdG; omega
  have hhg : hgG G wp k < 18 := by unfold hgG; omega
  have hWH : W * H ≤ 1600 := Nat.mul_le_mul hW hH
  have c01 := pW.2.2.1 k (by omega)
  have w32 := hw.2.2 k (by omega)
  have eL : layG W H G ew eo es wp we wc wo nw k = (layB W H (wdG G wp) (hgG G wp) (okG G ew eo es wp we wc wo) (k + 1)).2 k := layB_at nw hk
  have key : ∃ o, (okG G ew eo es wp we wc wo k → FF (FitK (layB W H (wdG G wp) (hgG G wp) (okG G ew eo es wp we wc wo) k).1 W H (wdG G wp k) (hgG G wp k)) (W * H) o) ∧ (¬ okG G ew eo es wp we wc wo k → o = none) ∧ (∀ j, o = some j → j < W * H) ∧ fL_isWall_L108 fu rec36 fu P x ac ap aw x4 aq x7 x8 x9 x10 (nI k) v (oW (wo k)) (-1) (nI (wdG G wp k)) (nI (hgG G wp k)) 0 = fL_isWall_L191 fu rec36 P x ac ap aw x4 aq x7 x8 x9 x10 (nI k) v (oW (wo k)) (oW o) (nI (wdG G wp k)) (nI (hgG G wp k)) := by
    by_cases ok : okG G ew eo es wp we wc wo k
    · have ev : v = 1 := TF_un hv (Or.inl ⟨rfl, ok.1⟩)
      have h14 : oW (wo k) = -1 ∨ aI P.2 aw (32 + k) = 1 := by
        by_cases e : wo k = none
        · rw [e]
          exact Or.inl rfl
        · refine Or.inr ?_
          rw [w32]
          exact c01.resolve_left (fun q => ok.2 ⟨e, q⟩)
      obtain ⟨o, o1, o2⟩ := l_find (fu := fu) (x := x) (rec36 := rec36) (x4 := x4) (x7 := x7) (x8 := x8) (x9 := x9) (x10 := x10) (x13 := v) (x14 := oW (wo k)) (k := k) (by omega) hwd hhg hW0 hW hH hO i6 i7 hq hr (by omega) (by rw [ev]; exact n1z) h14 (W * H) 0 (fu - W * H - 2) (by omega) (fun i hi => absurd hi (Nat.not_lt_zero _))
      rw [show fu - W * H - 2 + W * H + 2 = fu by omega] at o2
      refine ⟨o, fun _ => o1, fun q => absurd ok q, fun j hj => ?_, o2⟩
      rw [hj] at o1
      exact o1.1
    · have h13 : v = 0 ∨ (¬ oW (wo k) = -1 ∧ ¬ aI P.2 aw (32 + k) = 1) := by
        rcases hv with ⟨q1, q2⟩ | ⟨q1, q2⟩
        · have q3 : wo k ≠ none ∧ wc k = 0 := Classical.byContradiction fun z => ok ⟨q2, z⟩
          refine Or.inr ⟨?_, ?_⟩
          · cases e : wo k with
            | none => exact absurd e q3.1
            | some j =>
              rw [e] at v3
              have := v3.2.1
              exact nI_nm1 (by omega)
          · rw [w32, q3.2]
            decide
        · exact Or.inl q1
      exact ⟨none, fun q => absurd q ok, fun _ => rfl, fun j hj => (nomatch hj), l_nofind (by omega) hW0 hW hH0 hH hO i6 i7 (by omega) h13⟩
  obtain ⟨o, o1, o2, o3, o4⟩ := key
  obtain ⟨s1, s2⟩ := layB_st (ok := okG G ew eo es wp we wc wo) o1 o2
  rw [s1] at eL
  have lo := (lay_oG (ew := ew) (eo := eo) (es := es) pP pW ⟨hW0, hW, hH0, hH⟩).1
  have ho : ∀ j, o = some j → j < 1600 ∧ j / W + hgG G wp k ≤ 40 := fun j hj => by
    have q := lo k j (by rw [eL]; exact hj)
    have := o3 j hj
    omega
  obtain ⟨Y', z1, z2, z3, z4⟩ := l_take (P := P) (rec36 := rec36) (fu := fu) (x := x) (w := wdG G wp k) (x4 := x4) (x7 := x7) (x8 := x8) (x9 := x9) (x10 := x10) (x13 := v) (x14 := oW (wo k)) (k := k) hW0 hW hO hq i6 ho hhg (hgG G wp k) 0 (fu - hgG G wp k - 1) P.2 (by omega) rfl rfl
  rw [show fu - hgG G wp k - 1 + hgG G wp k + 1 = fu by omega] at z1
  refine ⟨Y', ?_, z2, z3, fun r hr9 => ?_, fun j hj => (ho j (by rw [← eL]; exact hj)).1⟩
  · rw [o4, eL]
    exact z1
  · rw [s2, z4]
    cases o with
    | none => exact hr r hr9
    | some j =>
      show (if j / W + 0 ≤ r ∧ r < j / W + hgG G wp k then aJ P.2 aq r ||| _ else aJ P.2 aq r) = putK _ W (wdG G wp k) (hgG G wp k) j r
      unfold putK
      rw [hr r hr9]
      rfl
theorem wl_loop {Y0 : Mem} {X1 : Mem} (hfu : 5000 ≤ fu) (hS : StX x K T V N n np G ne ew eo es nw wp we wc wo W H X1) (hR : RelP K T V N n np G ne ew nw wp we wc wo W H) (hO : LOK (X1, Y0) ac ap aw) (hI : LIn np ne nw W H (aI Y0 ac)) (hp : LIp np G (aI Y0 ap)) (hw : LIw ne ew eo es nw wp we wc (aI Y0 aw)) (hq : mK Y0 aq = some (22, 40)) (hu : x4 - x4 / (3 : Int32) * (3 : Int32) = nI u) (hu3 : u < 3) (hcx : cx < W) (hcy : cy < H) : ∀ (t k m : Nat) (Y : Mem) (o : Option Nat), k + t = nw → mK Y = mK Y0 → aI Y = aI Y0 → (∀ r, r < 40 → aJ Y aq r = (layB W H (wdG G wp) (hgG G wp) (okG G ew eo es wp we wc wo) k).1 r) → LCv (CovP W (wdG G wp) (hgG G wp) (layG W H G ew eo es wp we wc wo nw) cx cy) k o → ∃ Y', fL_isWall_L36 fu (m + t + 1) (X1, Y) x ac ap aw x4 aq (nI (cnB (fun w => layG W H G ew eo es wp we wc wo nw w ≠ none ∧ pgu (G (wp w)) = nI u) k)) (oW o) (nI cx) (nI cy) 1 (nI k) = some (1, (X1, Y')) ∧ mK Y' = mK Y0 ∧ aI Y' = aI Y0 := by
  obtain ⟨i3, i4, i5, i6, i7, i8, i9, i10⟩ := id hI
  obtain ⟨pD, pP, pE, pW, hW0, hW, hH0, hH⟩ := id hR
  intro t
  induction t with
  | zero =>
    intro k m Y o hk e1 e2 hr hc
    have hk : k = nw := hk
    subst hk
    have hO' : LOK (X1, Y) ac ap aw := by
      obtain ⟨q1, q2, q3, q4, q5⟩ := hO
      exact ⟨by rw [e1]; exact q1, by rw [e1]; exact q2, by rw [e1]; exact q3, fun a ha => q4 a (by rw [← e1]; exact ha), fun a ha => q5 a (by rw [← e1]; exact ha)⟩
    refine ⟨Y, ?_, e1, e2⟩
    obtain ⟨o', a1, a2⟩ := m_onWall hfu hS hR hcx hcy
    have eoo : o' = o := by
      cases o with
      | none =>
        cases o' with
        | none => rfl
        | some j => exact absurd a2.2.2.1 (hc j a2.2.1)
      | some i =>
        cases o' with
        | none => exact absurd hc.2 (a2 i (Nat.zero_le _) hc.1)
        | some j =>
          obtain ⟨ki, y1, y2⟩ := hc.2
          obtain ⟨kj, y3, y4⟩ := a2.2.2.1
          have dis := (lay_oG (ew := ew) (eo := eo) (es := es) pP pW ⟨hW0, hW, hH0, hH⟩).2
          rcases Nat.lt_trichotomy i j with q | q | q
          · exact absurd y4 (dis i j ki kj q y1 y3 cx cy y2)
          · rw [q]
          · exact absurd y2 (dis j i kj ki q y3 y1 cx cy y4)
    have h5 := m_hung hfu hS hR (by omega : 5 < 6)
    have hu9 := m_hung hfu hS hR (by omega : u < 6)
    have z5 : cnB (fun w => layG W H G ew eo es wp we wc wo k w ≠ none ∧ pgu (G (wp w)) = nI 5) k = 0 := cnB_z k (fun i hi q => by
      obtain ⟨b1, -⟩ := pW.2.1 i hi
      obtain ⟨-, ⟨u', b2, b3⟩, -⟩ := hp (wp i) b1
      rw [b3] at q
      have := (nI_eq (by omega) (by omega)).mp q.2
      omega)
    rw [z5] at h5
    show fL_isWall_L36b fu (fL_isWall_L36 fu m) (X1, Y) x ac ap aw x4 aq _ (oW o) (nI cx) (nI cy) 1 (nI k) = _
    unfold fL_isWall_L36b
    have g5 : aI Y ac 5 = nI k := by rw [e2]; exact i5
    rw [if_pos hO'.c5, cl5, g5, if_pos (Int32.le_refl _)]
    unfold fL_isWall_L424
    rw [if_neg n1z, if_pos (m_k hS), a1, nT_r, eoo, if_pos rfl, hu, hu9, nT_r, if_pos rfl, show (5 : Int32) = nI 5 from rfl, h5, nT_r, if_pos (show nI 0 = (0 : Int32) from rfl)]
  | succ t ih =>
    intro k m Y o hk e1 e2 hr hc
    have hkn : k < nw := by omega
    have hO' : LOK (X1, Y) ac ap aw := by
      obtain ⟨q1, q2, q3, q4, q5⟩ := hO
      exact ⟨by rw [e1]; exact q1, by rw [e1]; exact q2, by rw [e1]; exact q3, fun a ha => q4 a (by rw [← e1]; exact ha), fun a ha => q5 a (by rw [← e1]; exact ha)⟩
    have hI' : LIn np ne nw W H (aI Y ac) := by rw [e2]; exact hI
    have hp' : LIp np G (aI Y ap) := by rw [e2]; exact hp
    have hw' : LIw ne ew eo es nw wp we wc (aI Y aw) := by rw [e2]; exact hw
    have hq' : mK Y aq = some (22, 40) := by rw [e1]; exact hq
    obtain ⟨b1, b2, -⟩ := pW.2.1 k hkn
    have lim := (pP.2 _ b1).lim
    obtain ⟨w1, w2⟩ := hw'.2.1 k hkn
    obtain ⟨-, -, -, -, -, p4, p5⟩ := hp' (wp k) b1
    obtain ⟨v, v1, v2⟩ := ok_meets (P := (X1, Y)) hfu hS hR hO' hI' hp' hw' hkn
    have v3 := ok_copyOf (P := (X1, Y)) hfu hS hR hO' hI' hp' hw' hkn
    have e12 : (12 : Int32) + nI k = nI (12 + k) := wr_ix 12 k rfl
    have e40 : (40 : Int32) + nI (wp k) = nI (40 + wp k) := wr_ix 40 _ rfl
    have e50 : (50 : Int32) + nI (wp k) = nI (50 + wp k) := wr_ix 50 _ rfl
    have ewd : nI (pgc (G (wp k)) - pga (G (wp k))) + 1 = nI (wdG G wp k) := nI_1 _
    have ehg : nI (pgd (G (wp k)) - pgb (G (wp k))) + 1 = nI (hgG G wp k) := nI_1 _
    have hwd : wdG G wp k < 18 := by unfold wdG; omega
    have hhg : hgG G wp k < 18 := by unfold hgG; omega
    obtain ⟨Y1, z1, z2, z3, z4, z5⟩ := wl_place (P := (X1, Y)) (x := x) (rec36 := fL_isWall_L36 fu (m + t + 1)) (x4 := x4) (x7 := nI (cnB (fun w => layG W H G ew eo es wp we wc wo nw w ≠ none ∧ pgu (G (wp w)) = nI u) k)) (x8 := oW o) (x9 := nI cx) (x10 := nI cy) hfu hR hO' hI' hw' hkn v2 hq' hr
    have f1 : mK Y1 = mK Y0 := z2.trans e1
    have f2 : aI Y1 = aI Y0 := z3.trans e2
    have hO1 : LOK (X1, Y1) ac ap aw := by
      obtain ⟨q1, q2, q3, q4, q5⟩ := hO
      exact ⟨by rw [f1]; exact q1, by rw [f1]; exact q2, by rw [f1]; exact q3, fun a ha => q4 a (by rw [← f1]; exact ha), fun a ha => q5 a (by rw [← f1]; exact ha)⟩
    have g6 : aI Y1 ac 6 = nI W := by rw [f2]; exact i6
    obtain ⟨o', c1, c2⟩ := wl_242 (P := (X1, Y1)) (x := x) (rec36 := fL_isWall_L36 fu (m + t + 1)) (fu := fu) (aq := aq) (x4 := x4) (x7 := nI (cnB (fun w => layG W H G ew eo es wp we wc wo nw w ≠ none ∧ pgu (G (wp w)) = nI u) k)) (x8 := oW o) (v := v) (x14 := oW (wo k)) (cx := cx) (cy := cy) (by omega) (by omega) hW0 hW hO1 g6 rfl z5 hwd hhg
    have d1 := wl_320 (P := (X1, Y1)) (rec36 := fL_isWall_L36 fu (m + t + 1)) (aq := aq) (x4 := x4) (x8 := nxO (oW o) k o') (x9 := nI cx) (x10 := nI cy) (u := u) hfu hS hR hO1 (by show LIn np ne nw W H (aI Y1 ac); rw [f2]; exact hI) (by show LIp np G (aI Y1 ap); rw [f2]; exact hp) (by show LIw ne ew eo es nw wp we wc (aI Y1 aw); rw [f2]; exact hw) hkn v2 rfl z5 hu
    have hc' : ∃ o2 : Option Nat, nxO (oW o) k o' = oW o2 ∧ LCv (CovP W (wdG G wp) (hgG G wp) (layG W H G ew eo es wp we wc wo nw) cx cy) (k + 1) o2 := by
      cases o' with
      | none =>
        have nc : ¬ CovP W (wdG G wp) (hgG G wp) (layG W H G ew eo es wp we wc wo nw) cx cy k := fun q => c2.mpr q rfl
        refine ⟨o, rfl, ?_⟩
        cases o with
        | none =>
          intro j hj
          by_cases e : j = k
          · rw [e]; exact nc
          · exact hc j (by omega)
        | some i => exact ⟨by have := hc.1; omega, hc.2⟩
      | some i => exact ⟨some k, rfl, Nat.lt_succ_self k, c2.mp (fun z => nomatch z)⟩
    obtain ⟨o2, y1, y2⟩ := hc'
    rw [y1] at c1 d1
    obtain ⟨Y', r1, r2, r3⟩ := ih (k + 1) m Y1 o2 (by omega) f1 f2 z4 y2
    refine ⟨Y', ?_, r2, r3⟩
    show fL_isWall_L36b fu (fL_isWall_L36 fu (m + t + 1)) (X1, Y) x ac ap aw x4 aq _ (oW o) (nI cx) (nI cy) 1 (nI k) = _
    unfold fL_isWall_L36b
    have g5 : aI Y ac 5 = nI nw := by rw [e2]; exact i5
    rw [if_pos hO'.c5, cl5, g5, if_neg (show ¬ nI nw ≤ nI k from fun q => by have := (nI_leI (by omega) (by omega)).mp q; omega), if_neg n1z, v1, bi_some, v3, bi_some]
    dsimp only
    rw [e12, if_pos (hO'.w (12 + k) (by omega)), nI_clamp (by omega), w1, e40, e50, if_pos (hO'.p (40 + wp k) (by omega)), if_pos (hO'.w (12 + k) (by omega)), if_pos (hO'.p (50 + wp k) (by omega)), nI_clamp (by omega), nI_clamp (by omega), p4, p5, ewd, ehg, z1]
    exact c1.trans (d1.trans r1)
end WLP
