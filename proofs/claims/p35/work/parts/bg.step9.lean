/-! the other steps -/
section STQ
variable {fu x ac ap aw : Nat} {K T V N : Nat → Int32} {n np : Nat} {G : Nat → Pg} {ne : Nat} {ew : Nat → Nat} {eo es : Nat → Int32} {nw : Nat} {wp we : Nat → Nat} {wc : Nat → Int32} {wo : Nat → Option Nat} {W H : Nat} {P : LwP}
theorem rng30 {b : Nat} : (1 : Int32) ≤ nI (1 + b % 30) ∧ nI (1 + b % 30) ≤ 30 := ⟨(nI_leI (by omega : 1 < 2 ^ 31) (by omega)).mpr (by omega), (nI_leI (by omega) (by omega : 30 < 2 ^ 31)).mpr (by omega)⟩
theorem rng601 {b : Nat} : (0 : Int32) ≤ nI (b / 30 % 601) ∧ nI (b / 30 % 601) ≤ 600 := ⟨(nI_leI (by omega : 0 < 2 ^ 31) (by omega)).mpr (by omega), (nI_leI (by omega) (by omega : 600 < 2 ^ 31)).mpr (by omega)⟩
theorem s_157 (h : LwS x ac ap aw n K T V N n np G ne ew eo es nw wp we wc wo W H P) : ∃ P', fL_step_L157 fu P x ac = some (1, P') ∧ LawI x ac ap aw P' := by
  unfold fL_step_L157
  rw [if_pos (m_k h.1), m_programs h.1, bi_some, if_pos h.2.2.1.c3, cl3, h.2.2.2.2.1.1, if_pos rfl]
  exact ⟨P, rfl, h.law⟩
theorem s_326 (h : LwS x ac ap aw n K T V N n np G ne ew eo es nw wp we wc wo W H P) : ∃ P', fL_step_L326 fu P x ac = some (1, P') ∧ LawI x ac ap aw P' := by
  unfold fL_step_L326
  rw [if_pos (m_k h.1), m_works h.1, bi_some, if_pos h.2.2.1.c5, cl5, h.2.2.2.2.1.2.2.1, if_pos rfl]
  exact ⟨P, rfl, h.law⟩
/-- an exercise more -/
theorem s_ex {X1 Y : Mem} {p : Nat} {q1 q2 : Int32} (h4 : ne < 4) (hc : ac ≠ aw) (ha : ap ≠ aw) (hD : LId n K T n (aI P.2 ac)) (hI : LIn np ne nw W H (aI P.2 ac)) (hp : LIp np G (aI P.2 ap)) (hw : LIw ne ew eo es nw wp we wc (aI P.2 aw)) (fc : aI Y ac = upN (aI P.2 ac) 4 (nI (ne + 1))) (fp : aI Y ap = aI P.2 ap) (fw : aI Y aw = upN (upN (upN (aI P.2 aw) ne (nI p)) (4 + ne) q1) (8 + ne) q2) (hS : StX x K T V N n np G (ne + 1) (upN ew ne p) (upN eo ne q1) (upN es ne q2) nw wp we wc wo W H X1) (hR : RelP K T V N n np G (ne + 1) (upN ew ne p) nw wp we wc wo W H) (hO : LOK (X1, Y) ac ap aw) : LawI x ac ap aw (X1, Y) := by
  obtain ⟨i3, i4, i5, i6, i7, i8, i9, i10⟩ := hI
  refine LwS.law (ne := ne + 1) (ew := upN ew ne p) (eo := upN eo ne q1) (es := upN es ne q2) ⟨hS, hR, hO, ?_, ?_, ?_, ?_⟩
  · show LId n K T n (aI Y ac)
    obtain ⟨d0, d1, d2⟩ := hD
    rw [fc]
    exact ⟨by rw [un_o _ _ (by decide)]; exact d0, by rw [un_o _ _ (by decide)]; exact d1, fun t ht => by rw [un_o _ _ (by decide)]; exact d2 t ht⟩
  · show LIn np (ne + 1) nw W H (aI Y ac)
    rw [fc]
    exact ⟨by rw [un_o _ _ (by decide)]; exact i3, upN_s, by rw [un_o _ _ (by decide)]; exact i5, by rw [un_o _ _ (by decide)]; exact i6, by rw [un_o _ _ (by decide)]; exact i7, i8, h4, i10⟩
  · show LIp np G (aI Y ap)
    rw [fp]
    exact hp
  · show LIw (ne + 1) (upN ew ne p) (upN eo ne q1) (upN es ne q2) nw wp we wc (aI Y aw)
    rw [fw]
    refine ⟨fun j hj => ?_, fun j hj => ?_, fun j hj => ?_⟩
    · by_cases q : j = ne
      · subst q
        refine ⟨?_, ?_, ?_⟩
        · rw [un_o _ _ (by omega), un_o _ _ (by omega), upN_s, upN_s]
        · rw [un_o _ _ (by omega), upN_s, upN_s]
        · rw [upN_s, upN_s]
      · obtain ⟨a1, a2, a3⟩ := hw.1 j (by omega)
        refine ⟨?_, ?_, ?_⟩
        · rw [un_o _ _ (by omega), un_o _ _ (by omega), un_o _ _ q, upN_o q]
          exact a1
        · rw [un_o _ _ (by omega), un_o _ _ (by omega), un_o _ _ (by omega), un_o _ _ q]
          exact a2
        · rw [un_o _ _ (by omega), un_o _ _ (by omega), un_o _ _ (by omega), un_o _ _ q]
          exact a3
    · obtain ⟨a1, a2⟩ := hw.2.1 j hj
      exact ⟨by rw [un_o _ _ (by omega), un_o _ _ (by omega), un_o _ _ (by omega)]; exact a1, by rw [un_o _ _ (by omega), un_o _ _ (by omega), un_o _ _ (by omega)]; exact a2⟩
    · rw [un_o _ _ (by omega), un_o _ _ (by omega), un_o _ _ (by omega)]
      exact hw.2.2 j hj
theorem st_9 {d a b : Nat} (hd : d < 2 ^ 31) (ha : a < 2 ^ 31) (hb : b < 2 ^ 31) (e : d % 16 = 9) (h : LwS x ac ap aw n K T V N n np G ne ew eo es nw wp we wc wo W H P) : ∃ P', fL_step fu P x ac ap aw (nI d) (nI a) (nI b) = some (1, P') ∧ LawI x ac ap aw P' := by
  have hA : nI d - nI d / (16 : Int32) * (16 : Int32) = nI 9 := by rw [← e]; exact pk_rem hd (by decide) (by decide)
  have s157 := s_157 (fu := fu) h
  obtain ⟨hS, hR, hO, hD, hI, hp, hw⟩ := h
  obtain ⟨i3, i4, i5, i6, i7, i8, i9, i10⟩ := id hI
  obtain ⟨cp1, cp2, cp3⟩ := hO.cp
  have em30 : nI b - nI b / (30 : Int32) * (30 : Int32) = nI (b % 30) := pk_rem hb (by decide) (by decide)
  have ed30 : nI b / (30 : Int32) = nI (b / 30) := pk_div hb (by decide) (by decide)
  have em601 : nI (b / 30) - nI (b / 30) / (601 : Int32) * (601 : Int32) = nI (b / 30 % 601) := pk_rem (by omega) (by decide) (by decide)
  have e1 : (1 : Int32) + nI (b % 30) = nI (1 + b % 30) := wr_ix 1 _ rfl
  unfold fL_step
  rw [hA, if_neg (show ¬ nI 9 = (0 : Int32) by decide), if_neg (show ¬ nI 9 = (1 : Int32) by decide), if_neg (show ¬ nI 9 = (2 : Int32) by decide), if_neg (show ¬ nI 9 = (3 : Int32) by decide), if_neg (show ¬ nI 9 = (4 : Int32) by decide), if_neg (show ¬ nI 9 = (5 : Int32) by decide), if_neg (show ¬ nI 9 = (6 : Int32) by decide), if_neg (show ¬ nI 9 = (7 : Int32) by decide), if_neg (show ¬ nI 9 = (8 : Int32) by decide), if_pos (show nI 9 = (9 : Int32) from rfl), if_pos hO.c3, cl3, i3]
  by_cases c1 : nI np = 0
  · rw [if_pos c1]
    exact s157
  · rw [if_neg c1, if_pos hO.c4, cl4, i4]
    by_cases c2 : nI ne = (4 : Int32)
    · rw [if_pos c2]
      exact s157
    · have hnp : 0 < np := Nat.pos_of_ne_zero (fun q => c1 (by rw [q]; rfl))
      have hne : ne < 4 := Nat.lt_of_le_of_ne i9 (fun q => c2 (by rw [q]; rfl))
      have em : nI a - nI a / nI np * nI np = nI (a % np) := pk_rem ha hnp (by omega)
      have e4 : (4 : Int32) + nI ne = nI (4 + ne) := wr_ix 4 _ rfl
      have e8 : (8 : Int32) + nI ne = nI (8 + ne) := wr_ix 8 _ rfl
      obtain ⟨X1, z1, z2, z3, z4⟩ := m_exercise (p := a % np) (q1 := nI (1 + b % 30)) (q2 := nI (b / 30 % 601)) hS hR (Nat.mod_lt _ hnp) ⟨rng30, rng601⟩ (by omega)
      have hOY : LOK (X1, sI (sI (sI (sI P.2 aw ne (nI (a % np))) aw (4 + ne) (nI (1 + b % 30))) aw (8 + ne) (nI (b / 30 % 601))) ac 4 (nI (ne + 1))) ac ap aw := ((((hO.cl z4).st aw ne (nI (a % np))).st aw (4 + ne) (nI (1 + b % 30))).st aw (8 + ne) (nI (b / 30 % 601))).st ac 4 (nI (ne + 1))
      have fc : aI (sI (sI (sI (sI P.2 aw ne (nI (a % np))) aw (4 + ne) (nI (1 + b % 30))) aw (8 + ne) (nI (b / 30 % 601))) ac 4 (nI (ne + 1))) ac = upN (aI P.2 ac) 4 (nI (ne + 1)) := by rw [yI_s, yI_o cp2, yI_o cp2, yI_o cp2]
      have fp : aI (sI (sI (sI (sI P.2 aw ne (nI (a % np))) aw (4 + ne) (nI (1 + b % 30))) aw (8 + ne) (nI (b / 30 % 601))) ac 4 (nI (ne + 1))) ap = aI P.2 ap := by rw [yI_o cp1.symm, yI_o cp3, yI_o cp3, yI_o cp3]
      have fw : aI (sI (sI (sI (sI P.2 aw ne (nI (a % np))) aw (4 + ne) (nI (1 + b % 30))) aw (8 + ne) (nI (b / 30 % 601))) ac 4 (nI (ne + 1))) aw = upN (upN (upN (aI P.2 aw) ne (nI (a % np))) (4 + ne) (nI (1 + b % 30))) (8 + ne) (nI (b / 30 % 601)) := by rw [yI_o cp2.symm, yI_s, yI_s, yI_s]
      rw [if_neg c2, if_pos hO.c4, if_pos hO.c3, if_neg c1, em, em30, ed30, em601, e1, nI_clamp (show ne < 2 ^ 31 by omega), if_pos (hO.w ne (by omega)), inb_sI, if_pos hO.c4, yI_o cp2, i4, e4, inb_sI, if_pos (hO.w (4 + ne) (by omega)), nI_clamp (show 4 + ne < 2 ^ 31 by omega), inb_sI, inb_sI, if_pos hO.c4, yI_o cp2, yI_o cp2, i4, e8, inb_sI, inb_sI, if_pos (hO.w (8 + ne) (by omega)), nI_clamp (show 8 + ne < 2 ^ 31 by omega), inb_sI, inb_sI, inb_sI, if_pos hO.c4, if_pos hO.c4, yI_o cp2, yI_o cp2, yI_o cp2, i4, nI_1, inb_sI, inb_sI, inb_sI, inb_sI, if_pos hO.c3, fc, un_o 4 3 (by decide), i3, if_neg c1, if_pos (m_k hS), em, z1, nTW_r, bi_some]
      generalize sI (sI (sI (sI P.2 aw ne (nI (a % np))) aw (4 + ne) (nI (1 + b % 30))) aw (8 + ne) (nI (b / 30 % 601))) ac 4 (nI (ne + 1)) = Y at hOY fc fp fw
      have hlast : nI ne = aI Y ac 4 - 1 := by rw [fc, upN_s, nI_pred]
      rw [apC_ok hOY.2.2.2.1]
      dsimp only
      rw [if_pos hOY.c4, if_pos hlast]
      exact ⟨_, rfl, s_ex hne cp2 cp3 hD hI hp hw fc fp fw z2 z3 hOY⟩
end STQ
