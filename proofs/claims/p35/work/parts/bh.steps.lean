/-! works, clearings, the wall's size; all the steps -/
section STR
variable {fu x ac ap aw : Nat} {K T V N : Nat → Int32} {n np : Nat} {G : Nat → Pg} {ne : Nat} {ew : Nat → Nat} {eo es : Nat → Int32} {nw : Nat} {wp we : Nat → Nat} {wc : Nat → Int32} {wo : Nat → Option Nat} {W H : Nat} {P : LwP}
/-- a work more -/
theorem s_hi {X1 Y : Mem} {p u : Nat} {o : Option Nat} (h5 : nw < 10) (hD : LId n K T n (aI P.2 ac)) (hI : LIn np ne nw W H (aI P.2 ac)) (hp : LIp np G (aI P.2 ap)) (hw : LIw ne ew eo es nw wp we wc (aI P.2 aw)) (fc : aI Y ac = upN (aI P.2 ac) 5 (nI (nw + 1))) (fp : aI Y ap = aI P.2 ap) (fw : aI Y aw = upN (upN (aI P.2 aw) (12 + nw) (nI p)) (22 + nw) (nI u)) (hS : StX x K T V N n np G ne ew eo es (nw + 1) (upN wp nw p) (upN we nw u) wc (upN wo nw o) W H X1) (hR : RelP K T V N n np G ne ew (nw + 1) (upN wp nw p) (upN we nw u) wc (upN wo nw o) W H) (hO : LOK (X1, Y) ac ap aw) : LawI x ac ap aw (X1, Y) := by
  obtain ⟨i3, i4, i5, i6, i7, i8, i9, i10⟩ := hI
  refine LwS.law (nw := nw + 1) (wp := upN wp nw p) (we := upN we nw u) (wo := upN wo nw o) ⟨hS, hR, hO, ?_, ?_, ?_, ?_⟩
  · show LId n K T n (aI Y ac)
    obtain ⟨d0, d1, d2⟩ := hD
    rw [fc]
    exact ⟨by rw [un_o _ _ (by decide)]; exact d0, by rw [un_o _ _ (by decide)]; exact d1, fun t ht => by rw [un_o _ _ (by decide)]; exact d2 t ht⟩
  · show LIn np ne (nw + 1) W H (aI Y ac)
    rw [fc]
    exact ⟨by rw [un_o _ _ (by decide)]; exact i3, by rw [un_o _ _ (by decide)]; exact i4, upN_s, by rw [un_o _ _ (by decide)]; exact i6, by rw [un_o _ _ (by decide)]; exact i7, i8, i9, h5⟩
  · show LIp np G (aI Y ap)
    rw [fp]
    exact hp
  · show LIw ne ew eo es (nw + 1) (upN wp nw p) (upN we nw u) wc (aI Y aw)
    rw [fw]
    have hne : ne ≤ 4 := i9
    refine ⟨fun j hj => ?_, fun j hj => ?_, fun j hj => ?_⟩
    · obtain ⟨a1, a2, a3⟩ := hw.1 j hj
      exact ⟨by rw [un_o _ _ (by omega), un_o _ _ (by omega)]; exact a1, by rw [un_o _ _ (by omega), un_o _ _ (by omega)]; exact a2, by rw [un_o _ _ (by omega), un_o _ _ (by omega)]; exact a3⟩
    · by_cases q : j = nw
      · subst q
        exact ⟨by rw [un_o _ _ (by omega), upN_s, upN_s], by rw [upN_s, upN_s]⟩
      · obtain ⟨a1, a2⟩ := hw.2.1 j (by omega)
        exact ⟨by rw [un_o _ _ (by omega), un_o _ _ (by omega), upN_o q]; exact a1, by rw [un_o _ _ (by omega), un_o _ _ (by omega), upN_o q]; exact a2⟩
    · rw [un_o _ _ (by omega), un_o _ _ (by omega)]
      exact hw.2.2 j hj
theorem s_306 {a b : Nat} (hfu : 5000 ≤ fu) (ha : a < 2 ^ 31) (hb : b < 2 ^ 31) (h : LwS x ac ap aw n K T V N n np G ne ew eo es nw wp we wc wo W H P) : ∃ P', fL_step_L306 fu P x ac aw (nI a) (nI b) = some (1, P') ∧ LawI x ac ap aw P' := by
  have s326 := s_326 (fu := fu) h
  obtain ⟨hS, hR, hO, hD, hI, hp, hw⟩ := h
  obtain ⟨i3, i4, i5, i6, i7, i8, i9, i10⟩ := id hI
  obtain ⟨cp1, cp2, cp3⟩ := hO.cp
  unfold fL_step_L306
  rw [if_pos hO.c3, cl3, i3]
  by_cases c1 : nI np = 0
  · rw [if_pos c1]
    exact s326
  · rw [if_neg c1, if_pos hO.c4, cl4, i4]
    by_cases c2 : nI ne = 0
    · rw [if_pos c2]
      exact s326
    · rw [if_neg c2, if_pos hO.c5, cl5, i5]
      by_cases c3 : nI nw = (10 : Int32)
      · rw [if_pos c3]
        exact s326
      · have hnp : 0 < np := Nat.pos_of_ne_zero (fun q => c1 (by rw [q]; rfl))
        have hne : 0 < ne := Nat.pos_of_ne_zero (fun q => c2 (by rw [q]; rfl))
        have hnw : nw < 10 := Nat.lt_of_le_of_ne i10 (fun q => c3 (by rw [q]; rfl))
        have em : nI a - nI a / nI np * nI np = nI (a % np) := pk_rem ha hnp (by omega)
        have em2 : nI b - nI b / nI ne * nI ne = nI (b % ne) := pk_rem hb hne (by omega)
        have e12 : (12 : Int32) + nI nw = nI (12 + nw) := wr_ix 12 _ rfl
        have e22 : (22 : Int32) + nI nw = nI (22 + nw) := wr_ix 22 _ rfl
        obtain ⟨X1, o, z1, z2, z3, z4⟩ := m_handIn (fu := fu) (p := a % np) (u := b % ne) hfu hS hR (Nat.mod_lt _ hnp) (Nat.mod_lt _ hne) (by omega)
        have hOY : LOK (X1, sI (sI (sI P.2 aw (12 + nw) (nI (a % np))) aw (22 + nw) (nI (b % ne))) ac 5 (nI (nw + 1))) ac ap aw := (((hO.cl z4).st aw (12 + nw) (nI (a % np))).st aw (22 + nw) (nI (b % ne))).st ac 5 (nI (nw + 1))
        have fc : aI (sI (sI (sI P.2 aw (12 + nw) (nI (a % np))) aw (22 + nw) (nI (b % ne))) ac 5 (nI (nw + 1))) ac = upN (aI P.2 ac) 5 (nI (nw + 1)) := by rw [yI_s, yI_o cp2, yI_o cp2]
        have fp : aI (sI (sI (sI P.2 aw (12 + nw) (nI (a % np))) aw (22 + nw) (nI (b % ne))) ac 5 (nI (nw + 1))) ap = aI P.2 ap := by rw [yI_o cp1.symm, yI_o cp3, yI_o cp3]
        have fw : aI (sI (sI (sI P.2 aw (12 + nw) (nI (a % np))) aw (22 + nw) (nI (b % ne))) ac 5 (nI (nw + 1))) aw = upN (upN (aI P.2 aw) (12 + nw) (nI (a % np))) (22 + nw) (nI (b % ne)) := by rw [yI_o cp2.symm, yI_s, yI_s]
        rw [if_neg c3, if_pos hO.c5, if_pos hO.c3, if_neg c1, em, e12, if_pos (hO.w (12 + nw) (by omega)), nI_clamp (show 12 + nw < 2 ^ 31 by omega), inb_sI, if_pos hO.c5, inb_sI, if_pos hO.c4, yI_o cp2, i4, i5, if_neg c2, em2, e22, inb_sI, if_pos (hO.w (22 + nw) (by omega)), nI_clamp (show 22 + nw < 2 ^ 31 by omega), inb_sI, inb_sI, if_pos hO.c5, if_pos hO.c5, yI_o cp2, yI_o cp2, i5, nI_1, inb_sI, inb_sI, inb_sI, if_pos hO.c3, fc, un_o 5 3 (by decide), i3, if_neg c1, inb_sI, inb_sI, inb_sI, if_pos hO.c4, un_o 5 4 (by decide), i4, if_neg c2, if_pos (m_k hS), em, em2, z1, nTW_r, bi_some]
        generalize sI (sI (sI P.2 aw (12 + nw) (nI (a % np))) aw (22 + nw) (nI (b % ne))) ac 5 (nI (nw + 1)) = Y at hOY fc fp fw
        have hlast : nI nw = aI Y ac 5 - 1 := by rw [fc, upN_s, nI_pred]
        rw [apC_ok hOY.2.2.2.1]
        dsimp only
        rw [if_pos hOY.c5, if_pos hlast]
        exact ⟨_, rfl, s_hi hnw hD hI hp hw fc fp fw z2 z3 hOY⟩
theorem s_cl {X1 Y : Mem} {v : Int32} {k : Nat} {wc' : Nat → Int32} (hk : k < 10) (hc : ac ≠ aw) (ha : ap ≠ aw) (hD : LId n K T n (aI P.2 ac)) (hI : LIn np ne nw W H (aI P.2 ac)) (hp : LIp np G (aI P.2 ap)) (hw : LIw ne ew eo es nw wp we wc (aI P.2 aw)) (eY : Y = sI P.2 aw (32 + k) v) (hwc : wc' = upN wc k v) (hS : StX x K T V N n np G ne ew eo es nw wp we wc' wo W H X1) (hR : RelP K T V N n np G ne ew nw wp we wc' wo W H) (hO : LOK (X1, Y) ac ap aw) : LawI x ac ap aw (X1, Y) := by
  have fc : aI Y ac = aI P.2 ac := by rw [eY, yI_o hc]
  have fp : aI Y ap = aI P.2 ap := by rw [eY, yI_o ha]
  have fw : aI Y aw = upN (aI P.2 aw) (32 + k) v := by rw [eY, yI_s]
  have i9 := hI.2.2.2.2.2.2
  refine LwS.law (wc := wc') ⟨hS, hR, hO, ?_, ?_, ?_, ?_⟩
  · show LId n K T n (aI Y ac)
    rw [fc]
    exact hD
  · show LIn np ne nw W H (aI Y ac)
    rw [fc]
    exact hI
  · show LIp np G (aI Y ap)
    rw [fp]
    exact hp
  · show LIw ne ew eo es nw wp we wc' (aI Y aw)
    rw [fw, hwc]
    refine ⟨fun j hj => ?_, fun j hj => ?_, fun j hj => ?_⟩
    · obtain ⟨a1, a2, a3⟩ := hw.1 j hj
      exact ⟨by rw [un_o _ _ (by omega)]; exact a1, by rw [un_o _ _ (by omega)]; exact a2, by rw [un_o _ _ (by omega)]; exact a3⟩
    · obtain ⟨a1, a2⟩ := hw.2.1 j hj
      exact ⟨by rw [un_o _ _ (by omega)]; exact a1, by rw [un_o _ _ (by omega)]; exact a2⟩
    · by_cases q : j = k
      · rw [q, upN_s, upN_s]
      · rw [un_o _ _ (by omega), upN_o q]
        exact hw.2.2 j hj
theorem s_423 {b k : Nat} (hfu : 5000 ≤ fu) (hb : b < 2 ^ 31) (hk : k < 10) (hkn : nw = 0 → k = 0) (hkw : 0 < nw → k < nw) (h : LwS x ac ap aw n K T V N n np G ne ew eo es nw wp we wc wo W H P) : ∃ P', fL_step_L423 fu P x ac aw (nI b) (nI k) = some (1, P') ∧ LawI x ac ap aw P' := by
  obtain ⟨hS, hR, hO, hD, hI, hp, hw⟩ := h
  obtain ⟨i3, i4, i5, i6, i7, i8, i9, i10⟩ := id hI
  obtain ⟨cp1, cp2, cp3⟩ := hO.cp
  have e32 : (32 : Int32) + nI k = nI (32 + k) := wr_ix 32 _ rfl
  have eb : nI b - nI b / (2 : Int32) * (2 : Int32) = nI (b % 2) := pk_rem hb (by decide) (by decide)
  have c01 := hR.2.2.2.1.2.2.1 k (by omega)
  have w32 := hw.2.2 k hk
  have l441 : ∃ P', fL_step_L441 fu P x ac aw (nI b) (nI k) (wc k) = some (1, P') ∧ LawI x ac ap aw P' := by
    unfold fL_step_L441 fL_step_L463
    rw [if_pos hO.c5, cl5, i5, e32, eb]
    by_cases c1 : nI nw = 0
    · have n0 : nw = 0 := (nI_eq (by omega) (by omega : 0 < 2 ^ 31)).mp c1
      have k0 := hkn n0
      rw [if_pos c1, if_pos (hO.w (32 + k) (by omega)), inb_sI, if_pos hO.c5, yI_o cp2, i5, if_pos c1, nI_clamp (show 32 + k < 2 ^ 31 by omega)]
      have wz : wc k = 0 := hR.2.2.2.1.2.2.2 k (by omega) (by omega)
      refine ⟨_, rfl, s_cl (v := 0) (k := k) hk cp2 cp3 hD hI hp hw rfl ?_ hS hR (hO.st aw (32 + k) 0)⟩
      funext j
      by_cases q : j = k
      · rw [q, upN_s, wz]
      · rw [upN_o q]
    · have n0 : 0 < nw := Nat.pos_of_ne_zero (fun q => c1 (by rw [q]; rfl))
      rw [if_neg c1, if_pos (hO.w (32 + k) (by omega)), inb_sI, if_pos hO.c5, yI_o cp2, i5, if_neg c1, nI_clamp (show 32 + k < 2 ^ 31 by omega)]
      have go : ∀ q : Int32, (q = 0 ∨ q = 1) → nI (b % 2) = q → ∃ P', fL_step_L486 fu (P.1, sI P.2 aw (32 + k) (nI (b % 2))) (wc k) x (nI k) q = some (1, P') ∧ LawI x ac ap aw P' := by
        intro q hq eq
        obtain ⟨X1, z1, z2, z3, z4⟩ := m_clear (fu := fu) hfu hS hR (hkw n0) hq
        have hOY : LOK (X1, sI P.2 aw (32 + k) (nI (b % 2))) ac ap aw := (hO.cl z4).st aw (32 + k) (nI (b % 2))
        unfold fL_step_L486
        rw [if_pos (m_k hS), z1, nTW_r, bi_some]
        dsimp only
        rw [apC_ok hOY.2.2.2.1, if_pos rfl]
        exact ⟨_, rfl, s_cl (v := nI (b % 2)) (k := k) hk cp2 cp3 hD hI hp hw rfl (by rw [eq]) z2 z3 hOY⟩
      by_cases c2 : nI (b % 2) = (1 : Int32)
      · rw [if_pos c2]
        exact go 1 (Or.inr rfl) c2
      · rw [if_neg c2]
        refine go 0 (Or.inl rfl) ?_
        have : b % 2 = 0 := by
          have h2 : b % 2 < 2 := Nat.mod_lt _ (by decide)
          have h3 : b % 2 ≠ 1 := fun q => c2 (by rw [q]; rfl)
          omega
        rw [this]
        rfl
  unfold fL_step_L423
  rw [e32, if_pos (hO.w (32 + k) (by omega)), nI_clamp (show 32 + k < 2 ^ 31 by omega), w32]
  rcases c01 with q | q
  · rw [q] at l441 ⊢
    rw [if_neg (by decide)]
    exact l441
  · rw [q] at l441 ⊢
    rw [if_pos rfl]
    exact l441
theorem st_10 {d a b : Nat} (hfu : 5000 ≤ fu) (hd : d < 2 ^ 31) (ha : a < 2 ^ 31) (hb : b < 2 ^ 31) (e : d % 16 = 10) (h : LwS x ac ap aw n K T V N n np G ne ew eo es nw wp we wc wo W H P) : ∃ P', fL_step fu P x ac ap aw (nI d) (nI a) (nI b) = some (1, P') ∧ LawI x ac ap aw P' := by
  have hA : nI d - nI d / (16 : Int32) * (16 : Int32) = nI 10 := by rw [← e]; exact pk_rem hd (by decide) (by decide)
  have hO := h.2.2.1
  obtain ⟨i3, i4, i5, i6, i7, i8, i9, i10⟩ := h.2.2.2.2.1
  have em30 : nI b - nI b / (30 : Int32) * (30 : Int32) = nI (b % 30) := pk_rem hb (by decide) (by decide)
  have ed30 : nI b / (30 : Int32) = nI (b / 30) := pk_div hb (by decide) (by decide)
  have em601 : nI (b / 30) - nI (b / 30) / (601 : Int32) * (601 : Int32) = nI (b / 30 % 601) := pk_rem (by omega) (by decide) (by decide)
  have e1 : (1 : Int32) + nI (b % 30) = nI (1 + b % 30) := wr_ix 1 _ rfl
  unfold fL_step
  rw [hA, if_neg (show ¬ nI 10 = (0 : Int32) by decide), if_neg (show ¬ nI 10 = (1 : Int32) by decide), if_neg (show ¬ nI 10 = (2 : Int32) by decide), if_neg (show ¬ nI 10 = (3 : Int32) by decide), if_neg (show ¬ nI 10 = (4 : Int32) by decide), if_neg (show ¬ nI 10 = (5 : Int32) by decide), if_neg (show ¬ nI 10 = (6 : Int32) by decide), if_neg (show ¬ nI 10 = (7 : Int32) by decide), if_neg (show ¬ nI 10 = (8 : Int32) by decide), if_neg (show ¬ nI 10 = (9 : Int32) by decide), if_pos (show nI 10 = (10 : Int32) from rfl), if_pos hO.c4, cl4, i4]
  by_cases c1 : nI ne = 0
  · rw [if_pos c1]
    exact ⟨P, rfl, h.law⟩
  · have hne : 0 < ne := Nat.pos_of_ne_zero (fun q => c1 (by rw [q]; rfl))
    have em : nI a - nI a / nI ne * nI ne = nI (a % ne) := pk_rem ha hne (by omega)
    obtain ⟨P', z1, z2⟩ := ok_allows (e := a % ne) (q1 := nI (1 + b % 30)) (q2 := nI (b / 30 % 601)) hfu h (Nat.mod_lt _ hne) ⟨rng30, rng601⟩
    rw [if_neg c1, if_pos hO.c4, if_neg c1, em, em30, ed30, em601, e1, z1, bW_some, apC_ok z2.2.2.1.2.2.2.1, if_neg n1z]
    exact ⟨P', rfl, z2.law⟩
theorem st_13 {d a b : Nat} (hfu : 5000 ≤ fu) (hd : d < 2 ^ 31) (ha : a < 2 ^ 31) (hb : b < 2 ^ 31) (e : d % 16 = 13) (h : LwS x ac ap aw n K T V N n np G ne ew eo es nw wp we wc wo W H P) : ∃ P', fL_step fu P x ac ap aw (nI d) (nI a) (nI b) = some (1, P') ∧ LawI x ac ap aw P' := by
  have hA : nI d - nI d / (16 : Int32) * (16 : Int32) = nI 13 := by rw [← e]; exact pk_rem hd (by decide) (by decide)
  have hO := h.2.2.1
  obtain ⟨i3, i4, i5, i6, i7, i8, i9, i10⟩ := h.2.2.2.2.1
  unfold fL_step
  rw [hA, if_neg (show ¬ nI 13 = (0 : Int32) by decide), if_neg (show ¬ nI 13 = (1 : Int32) by decide), if_neg (show ¬ nI 13 = (2 : Int32) by decide), if_neg (show ¬ nI 13 = (3 : Int32) by decide), if_neg (show ¬ nI 13 = (4 : Int32) by decide), if_neg (show ¬ nI 13 = (5 : Int32) by decide), if_neg (show ¬ nI 13 = (6 : Int32) by decide), if_neg (show ¬ nI 13 = (7 : Int32) by decide), if_neg (show ¬ nI 13 = (8 : Int32) by decide), if_neg (show ¬ nI 13 = (9 : Int32) by decide), if_neg (show ¬ nI 13 = (10 : Int32) by decide), if_neg (show ¬ nI 13 = (11 : Int32) by decide), if_neg (show ¬ nI 13 = (12 : Int32) by decide), if_pos (show nI 13 = (13 : Int32) from rfl), if_pos hO.c5, cl5, i5]
  by_cases c1 : nI nw = 0
  · rw [if_pos c1]
    have n0 : nw = 0 := (nI_eq (by omega) (by omega : 0 < 2 ^ 31)).mp c1
    exact s_423 (k := 0) hfu hb (by omega) (fun _ => rfl) (fun q => by omega) h
  · have hne : 0 < nw := Nat.pos_of_ne_zero (fun q => c1 (by rw [q]; rfl))
    have em : nI a - nI a / nI nw * nI nw = nI (a % nw) := pk_rem ha hne (by omega)
    rw [if_neg c1, if_pos hO.c5, if_neg c1, em]
    have l := Nat.mod_lt a hne
    exact s_423 (k := a % nw) hfu hb (by omega) (fun q => by omega) (fun _ => l) h
theorem st_14 {d a b : Nat} (hfu : 5000 ≤ fu) (hd : d < 2 ^ 31) (ha : a < 2 ^ 31) (hb : b < 2 ^ 31) (e : d % 16 = 14) (h : LwS x ac ap aw n K T V N n np G ne ew eo es nw wp we wc wo W H P) : ∃ P', fL_step fu P x ac ap aw (nI d) (nI a) (nI b) = some (1, P') ∧ LawI x ac ap aw P' := by
  have hA : nI d - nI d / (16 : Int32) * (16 : Int32) = nI 14 := by rw [← e]; exact pk_rem hd (by decide) (by decide)
  obtain ⟨hS, hR, hO, hD, hI, hp, hw⟩ := h
  obtain ⟨cp1, cp2, cp3⟩ := hO.cp
  obtain ⟨i3, i4, i5, i6, i7, i8, i9, i10⟩ := hI
  have ema : nI a - nI a / (40 : Int32) * (40 : Int32) = nI (a % 40) := pk_rem ha (by decide) (by decide)
  have emb : nI b - nI b / (40 : Int32) * (40 : Int32) = nI (b % 40) := pk_rem hb (by decide) (by decide)
  have e1 : ∀ j, (1 : Int32) + nI j = nI (1 + j) := fun j => wr_ix 1 _ rfl
  have la : a % 40 < 40 := Nat.mod_lt _ (by decide)
  have lb : b % 40 < 40 := Nat.mod_lt _ (by decide)
  obtain ⟨X1, z1, z2, z3, z4⟩ := m_setWall (fu := fu) (W' := 1 + a % 40) (H' := 1 + b % 40) hfu hS hR ⟨by omega, by omega, by omega, by omega⟩
  have hOY : LOK (X1, sI (sI P.2 ac 6 (nI (1 + a % 40))) ac 7 (nI (1 + b % 40))) ac ap aw := ((hO.cl z4).st ac 6 (nI (1 + a % 40))).st ac 7 (nI (1 + b % 40))
  have fc : aI (sI (sI P.2 ac 6 (nI (1 + a % 40))) ac 7 (nI (1 + b % 40))) ac = upN (upN (aI P.2 ac) 6 (nI (1 + a % 40))) 7 (nI (1 + b % 40)) := by rw [yI_s, yI_s]
  have fp : aI (sI (sI P.2 ac 6 (nI (1 + a % 40))) ac 7 (nI (1 + b % 40))) ap = aI P.2 ap := by rw [yI_o cp1.symm, yI_o cp1.symm]
  have fw : aI (sI (sI P.2 ac 6 (nI (1 + a % 40))) ac 7 (nI (1 + b % 40))) aw = aI P.2 aw := by rw [yI_o cp2.symm, yI_o cp2.symm]
  unfold fL_step
  rw [hA, if_neg (show ¬ nI 14 = (0 : Int32) by decide), if_neg (show ¬ nI 14 = (1 : Int32) by decide), if_neg (show ¬ nI 14 = (2 : Int32) by decide), if_neg (show ¬ nI 14 = (3 : Int32) by decide), if_neg (show ¬ nI 14 = (4 : Int32) by decide), if_neg (show ¬ nI 14 = (5 : Int32) by decide), if_neg (show ¬ nI 14 = (6 : Int32) by decide), if_neg (show ¬ nI 14 = (7 : Int32) by decide), if_neg (show ¬ nI 14 = (8 : Int32) by decide), if_neg (show ¬ nI 14 = (9 : Int32) by decide), if_neg (show ¬ nI 14 = (10 : Int32) by decide), if_neg (show ¬ nI 14 = (11 : Int32) by decide), if_neg (show ¬ nI 14 = (12 : Int32) by decide), if_neg (show ¬ nI 14 = (13 : Int32) by decide), if_pos (show nI 14 = (14 : Int32) from rfl), ema, emb, e1, e1, if_pos hO.c6, inb_sI, if_pos hO.c7, inb_sI, inb_sI, if_pos hO.c6, inb_sI, inb_sI, if_pos hO.c7, cl6, cl7, fc, un_o 7 6 (by decide), upN_s, upN_s, if_pos (m_k hS), z1, nTW_r, bi_some]
  generalize sI (sI P.2 ac 6 (nI (1 + a % 40))) ac 7 (nI (1 + b % 40)) = Y at hOY fc fp fw
  rw [apC_ok hOY.2.2.2.1]
  have h5 : aI Y ac 5 = nI nw := by rw [fc, un_o _ _ (by decide), un_o _ _ (by decide)]; exact i5
  have y := s_542 (fu := fu) z2 z3 hOY h5 rfl nw 0 (fu - nw - 1) (by omega)
  rw [show fu - nw - 1 + nw + 1 = fu by omega] at y
  refine ⟨(X1, Y), y, LwS.law (W := 1 + a % 40) (H := 1 + b % 40) ⟨z2, z3, hOY, ?_, ?_, ?_, ?_⟩⟩
  · show LId n K T n (aI Y ac)
    obtain ⟨d0, d1, d2⟩ := hD
    rw [fc]
    exact ⟨by rw [un_o _ _ (by decide), un_o _ _ (by decide)]; exact d0, by rw [un_o _ _ (by decide), un_o _ _ (by decide)]; exact d1, fun t ht => by rw [un_o _ _ (by decide), un_o _ _ (by decide)]; exact d2 t ht⟩
  · show LIn np ne nw (1 + a % 40) (1 + b % 40) (aI Y ac)
    refine ⟨?_, ?_, h5, ?_, ?_, i8, i9, i10⟩
    · rw [fc, un_o _ _ (by decide), un_o _ _ (by decide)]; exact i3
    · rw [fc, un_o _ _ (by decide), un_o _ _ (by decide)]; exact i4
    · rw [fc, un_o _ _ (by decide), upN_s]
    · rw [fc, upN_s]
  · show LIp np G (aI Y ap)
    rw [fp]
    exact hp
  · show LIw ne ew eo es nw wp we wc (aI Y aw)
    rw [fw]
    exact hw
theorem st_15 {d a b : Nat} (hfu : 5000 ≤ fu) (hd : d < 2 ^ 31) (hb : b < 2 ^ 31) (e : d % 16 = 15) (h : LwS x ac ap aw n K T V N n np G ne ew eo es nw wp we wc wo W H P) : ∃ P', fL_step fu P x ac ap aw (nI d) (nI a) (nI b) = some (1, P') ∧ LawI x ac ap aw P' := by
  have hA : nI d - nI d / (16 : Int32) * (16 : Int32) = nI 15 := by rw [← e]; exact pk_rem hd (by decide) (by decide)
  have hO := h.2.2.1
  have d0 := h.2.2.2.1.1
  have s620 := s_620 (fu := fu) hfu h
  unfold fL_step
  rw [hA, if_neg (show ¬ nI 15 = (0 : Int32) by decide), if_neg (show ¬ nI 15 = (1 : Int32) by decide), if_neg (show ¬ nI 15 = (2 : Int32) by decide), if_neg (show ¬ nI 15 = (3 : Int32) by decide), if_neg (show ¬ nI 15 = (4 : Int32) by decide), if_neg (show ¬ nI 15 = (5 : Int32) by decide), if_neg (show ¬ nI 15 = (6 : Int32) by decide), if_neg (show ¬ nI 15 = (7 : Int32) by decide), if_neg (show ¬ nI 15 = (8 : Int32) by decide), if_neg (show ¬ nI 15 = (9 : Int32) by decide), if_neg (show ¬ nI 15 = (10 : Int32) by decide), if_neg (show ¬ nI 15 = (11 : Int32) by decide), if_neg (show ¬ nI 15 = (12 : Int32) by decide), if_neg (show ¬ nI 15 = (13 : Int32) by decide), if_neg (show ¬ nI 15 = (14 : Int32) by decide), if_pos (show (nI 15).toInt < 0 ∨ 14 < (nI 15).toInt by decide)]
  by_cases c1 : nI b - nI b / (3 : Int32) * (3 : Int32) ≤ 0
  · rw [if_pos c1]
    exact s620
  · rw [if_neg c1, if_pos hO.c0, cl0, d0]
    by_cases c2 : (25 : Int32) ≤ nI n
    · rw [if_pos c2]
      exact s620
    · rw [if_neg c2, if_pos (m_k h.1), m_drafted h.1, bi_some, if_pos hO.c0, if_pos rfl]
      exact ⟨P, rfl, h.law⟩
theorem st_d {d a b : Nat} (hd : d < 2 ^ 31) (ha : a < 2 ^ 31) (hb : b < 2 ^ 31) (e : d % 16 < 7) (h : LwS x ac ap aw n K T V N n np G ne ew eo es nw wp we wc wo W H P) : ∃ P', fL_step fu P x ac ap aw (nI d) (nI a) (nI b) = some (1, P') ∧ LawI x ac ap aw P' := by
  have hA : nI d - nI d / (16 : Int32) * (16 : Int32) = nI (d % 16) := pk_rem hd (by decide) (by decide)
  have s80 := s_80 (fu := fu) hd ha hb h
  unfold fL_step
  rw [hA]
  generalize d % 16 = s at e
  rcases (show s = 0 ∨ s = 1 ∨ s = 2 ∨ s = 3 ∨ s = 4 ∨ s = 5 ∨ s = 6 by omega) with rfl | rfl | rfl | rfl | rfl | rfl | rfl
  · rw [if_pos (show nI 0 = (0 : Int32) from rfl)]; exact s80
  · rw [if_neg (show ¬ nI 1 = (0 : Int32) by decide), if_pos (show nI 1 = (1 : Int32) from rfl)]; exact s80
  · rw [if_neg (show ¬ nI 2 = (0 : Int32) by decide), if_neg (show ¬ nI 2 = (1 : Int32) by decide), if_pos (show nI 2 = (2 : Int32) from rfl)]; exact s80
  · rw [if_neg (show ¬ nI 3 = (0 : Int32) by decide), if_neg (show ¬ nI 3 = (1 : Int32) by decide), if_neg (show ¬ nI 3 = (2 : Int32) by decide), if_pos (show nI 3 = (3 : Int32) from rfl)]; exact s80
  · rw [if_neg (show ¬ nI 4 = (0 : Int32) by decide), if_neg (show ¬ nI 4 = (1 : Int32) by decide), if_neg (show ¬ nI 4 = (2 : Int32) by decide), if_neg (show ¬ nI 4 = (3 : Int32) by decide), if_pos (show nI 4 = (4 : Int32) from rfl)]; exact s80
  · rw [if_neg (show ¬ nI 5 = (0 : Int32) by decide), if_neg (show ¬ nI 5 = (1 : Int32) by decide), if_neg (show ¬ nI 5 = (2 : Int32) by decide), if_neg (show ¬ nI 5 = (3 : Int32) by decide), if_neg (show ¬ nI 5 = (4 : Int32) by decide), if_pos (show nI 5 = (5 : Int32) from rfl)]; exact s80
  · rw [if_neg (show ¬ nI 6 = (0 : Int32) by decide), if_neg (show ¬ nI 6 = (1 : Int32) by decide), if_neg (show ¬ nI 6 = (2 : Int32) by decide), if_neg (show ¬ nI 6 = (3 : Int32) by decide), if_neg (show ¬ nI 6 = (4 : Int32) by decide), if_neg (show ¬ nI 6 = (5 : Int32) by decide), if_pos (show nI 6 = (6 : Int32) from rfl)]; exact s80
theorem ok_step {d a b : Nat} (hfu : 100000000 ≤ fu) (hd : d < 2 ^ 31) (ha : a < 2 ^ 31) (hb : b < 2 ^ 31) (h : LawI x ac ap aw P) : ∃ P', fL_step fu P x ac ap aw (nI d) (nI a) (nI b) = some (1, P') ∧ LawI x ac ap aw P' := by
  obtain ⟨K, T, V, N, n, np, G, ne, ew, eo, es, nw, wp, we, wc, wo, W, H, h⟩ := h
  have hA : nI d - nI d / (16 : Int32) * (16 : Int32) = nI (d % 16) := pk_rem hd (by decide) (by decide)
  have h16 : d % 16 < 16 := Nat.mod_lt _ (by decide)
  rcases (show d % 16 < 7 ∨ d % 16 = 7 ∨ d % 16 = 8 ∨ d % 16 = 9 ∨ d % 16 = 10 ∨ d % 16 = 11 ∨ d % 16 = 12 ∨ d % 16 = 13 ∨ d % 16 = 14 ∨ d % 16 = 15 by omega) with e | e | e | e | e | e | e | e | e | e
  · exact st_d hd ha hb e h
  · have s111 := s_111 (fu := fu) hfu hb h
    rw [e] at hA
    unfold fL_step
    rw [hA, if_neg (show ¬ nI 7 = (0 : Int32) by decide), if_neg (show ¬ nI 7 = (1 : Int32) by decide), if_neg (show ¬ nI 7 = (2 : Int32) by decide), if_neg (show ¬ nI 7 = (3 : Int32) by decide), if_neg (show ¬ nI 7 = (4 : Int32) by decide), if_neg (show ¬ nI 7 = (5 : Int32) by decide), if_neg (show ¬ nI 7 = (6 : Int32) by decide), if_pos (show nI 7 = (7 : Int32) from rfl)]
    exact s111
  · have s111 := s_111 (fu := fu) hfu hb h
    rw [e] at hA
    unfold fL_step
    rw [hA, if_neg (show ¬ nI 8 = (0 : Int32) by decide), if_neg (show ¬ nI 8 = (1 : Int32) by decide), if_neg (show ¬ nI 8 = (2 : Int32) by decide), if_neg (show ¬ nI 8 = (3 : Int32) by decide), if_neg (show ¬ nI 8 = (4 : Int32) by decide), if_neg (show ¬ nI 8 = (5 : Int32) by decide), if_neg (show ¬ nI 8 = (6 : Int32) by decide), if_neg (show ¬ nI 8 = (7 : Int32) by decide), if_pos (show nI 8 = (8 : Int32) from rfl)]
    exact s111
  · exact st_9 hd ha hb e h
  · exact st_10 (by omega) hd ha hb e h
  · have s306 := s_306 (fu := fu) (by omega) ha hb h
    rw [e] at hA
    unfold fL_step
    rw [hA, if_neg (show ¬ nI 11 = (0 : Int32) by decide), if_neg (show ¬ nI 11 = (1 : Int32) by decide), if_neg (show ¬ nI 11 = (2 : Int32) by decide), if_neg (show ¬ nI 11 = (3 : Int32) by decide), if_neg (show ¬ nI 11 = (4 : Int32) by decide), if_neg (show ¬ nI 11 = (5 : Int32) by decide), if_neg (show ¬ nI 11 = (6 : Int32) by decide), if_neg (show ¬ nI 11 = (7 : Int32) by decide), if_neg (show ¬ nI 11 = (8 : Int32) by decide), if_neg (show ¬ nI 11 = (9 : Int32) by decide), if_neg (show ¬ nI 11 = (10 : Int32) by decide), if_pos (show nI 11 = (11 : Int32) from rfl)]
    exact s306
  · have s306 := s_306 (fu := fu) (by omega) ha hb h
    rw [e] at hA
    unfold fL_step
    rw [hA, if_neg (show ¬ nI 12 = (0 : Int32) by decide), if_neg (show ¬ nI 12 = (1 : Int32) by decide), if_neg (show ¬ nI 12 = (2 : Int32) by decide), if_neg (show ¬ nI 12 = (3 : Int32) by decide), if_neg (show ¬ nI 12 = (4 : Int32) by decide), if_neg (show ¬ nI 12 = (5 : Int32) by decide), if_neg (show ¬ nI 12 = (6 : Int32) by decide), if_neg (show ¬ nI 12 = (7 : Int32) by decide), if_neg (show ¬ nI 12 = (8 : Int32) by decide), if_neg (show ¬ nI 12 = (9 : Int32) by decide), if_neg (show ¬ nI 12 = (10 : Int32) by decide), if_neg (show ¬ nI 12 = (11 : Int32) by decide), if_pos (show nI 12 = (12 : Int32) from rfl)]
    exact s306
  · exact st_13 (by omega) hd ha hb e h
  · exact st_14 (by omega) hd ha hb e h
  · exact st_15 (by omega) hd hb e h
end STR
