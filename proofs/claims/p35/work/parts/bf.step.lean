/-! the steps of the law, case by case -/
section STP
variable {fu x ac ap aw : Nat} {K T V N : Nat → Int32} {n np : Nat} {G : Nat → Pg} {ne : Nat} {ew : Nat → Nat} {eo es : Nat → Int32} {nw : Nat} {wp we : Nat → Nat} {wc : Nat → Int32} {wo : Nat → Option Nat} {W H : Nat} {P : LwP}
theorem LwS.law (h : LwS x ac ap aw n K T V N n np G ne ew eo es nw wp we wc wo W H P) : LawI x ac ap aw P := ⟨K, T, V, N, n, np, G, ne, ew, eo, es, nw, wp, we, wc, wo, W, H, h⟩
theorem s_80 {d a b : Nat} (hd : d < 2 ^ 31) (ha : a < 2 ^ 31) (hb : b < 2 ^ 31) (h : LwS x ac ap aw n K T V N n np G ne ew eo es nw wp we wc wo W H P) : ∃ P', fL_step_L80 fu P x ac (nI d) (nI a) (nI b) = some (1, P') ∧ LawI x ac ap aw P' := by
  have hO := h.2.2.1
  have d0 := h.2.2.2.1.1
  have hn30 := h.2.1.1.1
  unfold fL_step_L80
  rw [if_pos hO.c0, cl0, d0]
  by_cases e : nI n = (30 : Int32)
  · rw [if_pos e]
    exact ⟨P, rfl, h.law⟩
  · have hn : n < 30 := by
      refine Nat.lt_of_le_of_ne hn30 (fun q => e (by rw [q]; rfl))
    have e7 : nI d - nI d / (7 : Int32) * (7 : Int32) = nI (d % 7) := pk_rem hd (by decide) (by decide)
    obtain ⟨P', K', T', V', N', z1, z2⟩ := ok_drafts (wh := d % 7) hn (Nat.mod_lt _ (by decide)) ha hb h
    rw [if_neg e, e7, z1, bW_some, apC_ok z2.2.2.1.2.2.2.1, if_neg n1z]
    exact ⟨P', rfl, z2.law⟩
theorem s_111 {b : Nat} (hfu : 100000000 ≤ fu) (hb : b < 2 ^ 31) (h : LwS x ac ap aw n K T V N n np G ne ew eo es nw wp we wc wo W H P) : ∃ P', fL_step_L111 fu P x ac ap (nI b) = some (1, P') ∧ LawI x ac ap aw P' := by
  have hO := h.2.2.1
  have d0 := h.2.2.2.1.1
  obtain ⟨i3, -, -, -, -, i8, -, -⟩ := h.2.2.2.2.1
  have hn30 := h.2.1.1.1
  unfold fL_step_L111
  rw [if_pos hO.c0, cl0, d0]
  by_cases e : nI n = 0
  · rw [if_pos e]
    exact ⟨P, rfl, h.law⟩
  · rw [if_neg e, if_pos hO.c3, cl3, i3]
    by_cases e1 : nI np = (10 : Int32)
    · rw [if_pos e1]
      exact ⟨P, rfl, h.law⟩
    · have e7 : nI b - nI b / (3 : Int32) * (3 : Int32) = nI (b % 3) := pk_rem hb (by decide) (by decide)
      have hn0 : 0 < n := Nat.pos_of_ne_zero (fun q => e (by rw [q]; rfl))
      have h10 : np < 10 := Nat.lt_of_le_of_ne i8 (fun q => e1 (by rw [q]; rfl))
      obtain ⟨P', z1, z2⟩ := ok_writes (u := b % 3) hfu (Nat.mod_lt _ (by decide)) hn0 h10 h
      have z3 : apM P'.1 P'.2 := by
        obtain ⟨K, T, V, N, n, np, G, ne, ew, eo, es, nw, wp, we, wc, wo, W, H, q⟩ := z2
        exact q.2.2.1.2.2.2.1
      rw [if_neg e1, e7, z1, bW_some, apC_ok z3, if_neg n1z]
      exact ⟨P', rfl, z2⟩
theorem s_620 (hfu : 5000 ≤ fu) (h : LwS x ac ap aw n K T V N n np G ne ew eo es nw wp we wc wo W H P) : ∃ P', fL_step_L620 fu P x ac = some (1, P') ∧ LawI x ac ap aw P' := by
  obtain ⟨hS, hR, hO, ⟨d0, d1, d2⟩, hI, hp, hw⟩ := h
  obtain ⟨cp1, cp2, cp3⟩ := hO.cp
  have hx := m_k hS
  obtain ⟨X1, z1, z2, z3, z4⟩ := m_wipe (fu := fu) hfu hS hR
  have hOY : LOK (X1, sI (sI (sI P.2 ac 0 0) ac 1 0) ac 2 0) ac ap aw := (((hO.cl z4).st ac 0 0).st ac 1 0).st ac 2 0
  have fc : aI (sI (sI (sI P.2 ac 0 0) ac 1 0) ac 2 0) ac = upN (upN (upN (aI P.2 ac) 0 0) 1 0) 2 0 := by rw [yI_s, yI_s, yI_s]
  have fp : aI (sI (sI (sI P.2 ac 0 0) ac 1 0) ac 2 0) ap = aI P.2 ap := by rw [yI_o cp1.symm, yI_o cp1.symm, yI_o cp1.symm]
  have fw : aI (sI (sI (sI P.2 ac 0 0) ac 1 0) ac 2 0) aw = aI P.2 aw := by rw [yI_o cp2.symm, yI_o cp2.symm, yI_o cp2.symm]
  unfold fL_step_L620
  rw [if_pos hO.c0, if_pos hO.c0, inb_sI, if_pos hO.c1, inb_sI, inb_sI, if_pos hO.c2, if_pos hx, z1, bW_some, bi_some, cl0, cl1, cl2, d0]
  generalize sI (sI (sI P.2 ac 0 0) ac 1 0) ac 2 0 = Y at hOY fc fp fw
  rw [apC_ok hOY.2.2.2.1, if_pos rfl, if_pos (m_k z2), m_drafted z2, bi_some, if_pos (show nI 0 = (0 : Int32) from rfl)]
  refine ⟨_, rfl, K, T, V, N, 0, np, G, ne, ew, eo, es, nw, wp, we, wc, wo, W, H, z2, z3, hOY, ?_, ?_, ?_, ?_⟩
  · show LId 0 K T 0 (aI Y ac)
    rw [fc]
    refine LId_0 ?_ ?_ upN_s
    · rw [un_o _ _ (by decide), un_o _ _ (by decide), upN_s]
    · rw [un_o _ _ (by decide), upN_s]
  · show LIn np ne nw W H (aI Y ac)
    rw [fc]
    exact LIn.cg hI (fun i h1 h2 => by rw [un_o _ _ (by omega), un_o _ _ (by omega), un_o _ _ (by omega)])
  · show LIp np G (aI Y ap)
    rw [fp]
    exact hp
  · show LIw ne ew eo es nw wp we wc (aI Y aw)
    rw [fw]
    exact hw
/-- how many hang -/
theorem s_542 {X1 Y : Mem} {y : Int32} (hS : StX x K T V N n np G ne ew eo es nw wp we wc wo W H X1) (hR : RelP K T V N n np G ne ew nw wp we wc wo W H) (hO : LOK (X1, Y) ac ap aw) (h5 : aI Y ac 5 = nI nw) (hy : y = nI (cnB (fun w => layG W H G ew eo es wp we wc wo nw w ≠ none) nw)) : ∀ (t k m : Nat), k + t = nw → fL_step_L542 fu (m + t + 1) (X1, Y) x ac (nI (cnB (fun w => layG W H G ew eo es wp we wc wo nw w ≠ none) k)) y (nI k) = some (1, (X1, Y)) := by
  have hnw : nw ≤ 24 := hR.2.2.2.1.1
  intro t
  induction t with
  | zero =>
    intro k m hk
    have hk : k = nw := hk
    subst hk
    show fL_step_L542b fu (fL_step_L542 fu m) (X1, Y) x ac _ y (nI k) = _
    unfold fL_step_L542b
    rw [if_pos hO.c5, cl5, h5, if_pos (Int32.le_refl _), if_pos hy]
  | succ t ih =>
    intro k m hk
    have hkn : k < nw := by omega
    have y9 := ih (k + 1) m (by omega)
    have pL := hR.2.2.2.2
    have lo := (lay_oG (ew := ew) (eo := eo) (es := es) hR.2.1 hR.2.2.2.1 pL).1
    show fL_step_L542b fu (fL_step_L542 fu (m + t + 1)) (X1, Y) x ac _ y (nI k) = _
    unfold fL_step_L542b fL_step_L567
    rw [if_pos hO.c5, cl5, h5, if_neg (show ¬ nI nw ≤ nI k from fun q => by have := (nI_leI (by omega) (by omega)).mp q; omega), if_pos (m_k hS), m_hangs hS hR hkn, nT_r]
    cases e : layG W H G ew eo es wp we wc wo nw k with
    | none =>
      rw [cnB_n (P := fun w => layG W H G ew eo es wp we wc wo nw w ≠ none) (fun q => q e)] at y9
      rw [if_pos (show plc W none = -1 from rfl), l0, nI_add, nI_1]
      exact y9
    | some j =>
      rw [cnB_y (P := fun w => layG W H G ew eo es wp we wc wo nw w ≠ none) (fun q => by rw [e] at q; exact nomatch q)] at y9
      have q := lo k j e
      have l1 : j % W < W := Nat.mod_lt _ pL.1
      have l2 := pL.2.1
      have l3 := pL.2.2.2
      rw [if_neg (show ¬ plc W (some j) = -1 from nI_nm1 (by omega)), nI_1, nI_1]
      exact y9
end STP
