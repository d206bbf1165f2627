/-! a program is written, or the draft wiped -/
def LawI (x ac ap aw : Nat) (P : LwP) : Prop := ∃ K T V N n np G ne ew eo es nw wp we wc wo W H, LwS x ac ap aw n K T V N n np G ne ew eo es nw wp we wc wo W H P
theorem un_o {f : Nat → Int32} {v : Int32} (i j : Nat) (h : j ≠ i) : upN f i v j = f j := upN_o h
section WRT
variable {fu x ac ap aw : Nat} {K T V N : Nat → Int32} {n np : Nat} {G : Nat → Pg} {ne : Nat} {ew : Nat → Nat} {eo es : Nat → Int32} {nw : Nat} {wp we : Nat → Nat} {wc : Nat → Int32} {wo : Nat → Option Nat} {W H : Nat} {P : LwP}
theorem LId_0 {c : Nat → Int32} (h0 : c 0 = 0) (h1 : c 1 = 0) (h2 : c 2 = 0) : LId 0 K T 0 c := by
  refine ⟨h0, h1, fun t ht => ?_⟩
  rw [h2]
  exact Or.inr ⟨bit_z (by omega), fun ⟨i, hi, _⟩ => Nat.not_lt_zero i hi⟩
theorem LIp.add {p p' : Nat → Int32} {g : Pg} (h : LIp np G p) (hnp : np < 10) (hu : ∃ u, u < 3 ∧ pgu g = nI u) (e : p' = upN (upN (upN (upN (upN (upN p np (pgu g)) (10 + np) (nI (pgn g))) (20 + np) (nI (pga g))) (30 + np) (nI (pgb g))) (40 + np) (nI (pgc g - pga g))) (50 + np) (nI (pgd g - pgb g))) : LIp (np + 1) (upN G np g) p' := by
  intro q hq
  by_cases eq : q = np
  · subst eq
    rw [upN_s, e]
    refine ⟨?_, hu, ?_, ?_, ?_, ?_, ?_⟩
    · rw [un_o _ _ (by omega), un_o _ _ (by omega), un_o _ _ (by omega), un_o _ _ (by omega), un_o _ _ (by omega), upN_s]
    · rw [un_o _ _ (by omega), un_o _ _ (by omega), un_o _ _ (by omega), un_o _ _ (by omega), upN_s]
    · rw [un_o _ _ (by omega), un_o _ _ (by omega), un_o _ _ (by omega), upN_s]
    · rw [un_o _ _ (by omega), un_o _ _ (by omega), upN_s]
    · rw [un_o _ _ (by omega), upN_s]
    · rw [upN_s]
  · have hq2 : q < np := by omega
    obtain ⟨h1, h2, h3, h4, h5, h6, h7⟩ := h q hq2
    have out : ∀ j, j ≠ np → j ≠ 10 + np → j ≠ 20 + np → j ≠ 30 + np → j ≠ 40 + np → j ≠ 50 + np → p' j = p j := by
      intro j a1 a2 a3 a4 a5 a6
      rw [e, un_o _ _ a6, un_o _ _ a5, un_o _ _ a4, un_o _ _ a3, un_o _ _ a2, un_o _ _ a1]
    rw [upN_o eq, out q (by omega) (by omega) (by omega) (by omega) (by omega) (by omega), out (10 + q) (by omega) (by omega) (by omega) (by omega) (by omega) (by omega), out (20 + q) (by omega) (by omega) (by omega) (by omega) (by omega) (by omega), out (30 + q) (by omega) (by omega) (by omega) (by omega) (by omega) (by omega), out (40 + q) (by omega) (by omega) (by omega) (by omega) (by omega) (by omega), out (50 + q) (by omega) (by omega) (by omega) (by omega) (by omega) (by omega)]
    exact ⟨h1, h2, h3, h4, h5, h6, h7⟩
/-- what a program more leaves of the law's rows -/
theorem w_new {u : Nat} {g : Pg} {X2 Y : Mem} (h10 : np < 10) (hu : u < 3) (hg1 : pgu g = nI u) (hg2 : pgn g = n) (hc : ac ≠ ap) (hc2 : ap ≠ aw) (d1 : aI P.2 ac 1 = 0) (hI : LIn np ne nw W H (aI P.2 ac)) (hp : LIp np G (aI P.2 ap)) (hw : LIw ne ew eo es nw wp we wc (aI P.2 aw)) (fc : aI Y ac = upN (upN (upN (aI P.2 ac) 0 0) 2 0) 3 (nI (np + 1))) (fp : aI Y ap = upN (upN (aI P.2 ap) np (nI u)) (10 + np) (nI n)) (fw : aI Y aw = aI P.2 aw) (y2 : StX x K T V N 0 (np + 1) (upN G np g) ne ew eo es nw wp we wc wo W H X2) (z3 : RelP K T V N 0 (np + 1) (upN G np g) ne ew nw wp we wc wo W H) (hO2 : LOK (X2, Y) ac ap aw) : LawI x ac ap aw (X2, sI (sI (sI (sI Y ap (20 + np) (nI (pga g))) ap (30 + np) (nI (pgb g))) ap (40 + np) (nI (pgc g - pga g))) ap (50 + np) (nI (pgd g - pgb g))) := by
  obtain ⟨i3, i4, i5, i6, i7, i8, i9, i10⟩ := hI
  have gc : aI (sI (sI (sI (sI Y ap (20 + np) (nI (pga g))) ap (30 + np) (nI (pgb g))) ap (40 + np) (nI (pgc g - pga g))) ap (50 + np) (nI (pgd g - pgb g))) ac = upN (upN (upN (aI P.2 ac) 0 0) 2 0) 3 (nI (np + 1)) := by rw [yI_o hc, yI_o hc, yI_o hc, yI_o hc, fc]
  have gp : aI (sI (sI (sI (sI Y ap (20 + np) (nI (pga g))) ap (30 + np) (nI (pgb g))) ap (40 + np) (nI (pgc g - pga g))) ap (50 + np) (nI (pgd g - pgb g))) ap = upN (upN (upN (upN (upN (upN (aI P.2 ap) np (pgu g)) (10 + np) (nI (pgn g))) (20 + np) (nI (pga g))) (30 + np) (nI (pgb g))) (40 + np) (nI (pgc g - pga g))) (50 + np) (nI (pgd g - pgb g)) := by rw [yI_s, yI_s, yI_s, yI_s, fp, hg1, hg2]
  have gw : aI (sI (sI (sI (sI Y ap (20 + np) (nI (pga g))) ap (30 + np) (nI (pgb g))) ap (40 + np) (nI (pgc g - pga g))) ap (50 + np) (nI (pgd g - pgb g))) aw = aI P.2 aw := by rw [yI_o hc2.symm, yI_o hc2.symm, yI_o hc2.symm, yI_o hc2.symm, fw]
  have hO3 : LOK (X2, sI (sI (sI (sI Y ap (20 + np) (nI (pga g))) ap (30 + np) (nI (pgb g))) ap (40 + np) (nI (pgc g - pga g))) ap (50 + np) (nI (pgd g - pgb g))) ac ap aw := (((hO2.st ap (20 + np) (nI (pga g))).st ap (30 + np) (nI (pgb g))).st ap (40 + np) (nI (pgc g - pga g))).st ap (50 + np) (nI (pgd g - pgb g))
  generalize sI (sI (sI (sI Y ap (20 + np) (nI (pga g))) ap (30 + np) (nI (pgb g))) ap (40 + np) (nI (pgc g - pga g))) ap (50 + np) (nI (pgd g - pgb g)) = Y4 at gc gp gw hO3
  refine ⟨K, T, V, N, 0, np + 1, upN G np g, ne, ew, eo, es, nw, wp, we, wc, wo, W, H, y2, z3, hO3, ?_, ?_, ?_, ?_⟩
  · show LId 0 K T 0 (aI Y4 ac)
    rw [gc]
    refine LId_0 ?_ ?_ ?_
    · rw [un_o _ _ (by decide), un_o _ _ (by decide), upN_s]
    · rw [un_o _ _ (by decide), un_o _ _ (by decide), un_o _ _ (by decide), d1]
    · rw [un_o _ _ (by decide), upN_s]
  · show LIn (np + 1) ne nw W H (aI Y4 ac)
    rw [gc]
    have out : ∀ j, 4 ≤ j → upN (upN (upN (aI P.2 ac) 0 0) 2 0) 3 (nI (np + 1)) j = aI P.2 ac j := by
      intro j hj
      rw [un_o _ _ (by omega), un_o _ _ (by omega), un_o _ _ (by omega)]
    exact ⟨upN_s, by rw [out 4 (by omega)]; exact i4, by rw [out 5 (by omega)]; exact i5, by rw [out 6 (by omega)]; exact i6, by rw [out 7 (by omega)]; exact i7, by omega, i9, i10⟩
  · show LIp (np + 1) (upN G np g) (aI Y4 ap)
    exact hp.add h10 ⟨u, hu, hg1⟩ gp
  · show LIw ne ew eo es nw wp we wc (aI Y4 aw)
    rw [gw]
    exact hw
theorem w_write {u : Nat} (hfu : 100000000 ≤ fu) (hn0 : 0 < n) (h10 : np < 10) (hu : u < 3) (hbr : br K n = []) (h : LwS x ac ap aw n K T V N n np G ne ew eo es nw wp we wc wo W H P) : ∃ P', fL_writes_L56 fu P x ac ap (nI u) 1 = some (1, P') ∧ LawI x ac ap aw P' := by
  obtain ⟨hS, hR, hO, ⟨d0, d1, d2⟩, hI, hp, hw⟩ := h
  have i3 := hI.1
  obtain ⟨cp1, cp2, cp3⟩ := hO.cp
  have hx := m_k hS
  have d10 : aI P.2 ac 1 = 0 := by rw [d1, hbr]; rfl
  obtain ⟨X1, k, a, b, c, d, z1, z2, z3, z4⟩ := m_write (u := u) hfu hS hR hn0 hbr (by omega) (by omega)
  have e10 : (10 : Int32) + nI np = nI (10 + np) := nI_add 10 np
  have hg1 : pgu (K, T, V, N, n, nI u, k, a, b, c, d) = nI u := rfl
  have hg2 : pgn (K, T, V, N, n, nI u, k, a, b, c, d) = n := rfl
  generalize (K, T, V, N, n, nI u, k, a, b, c, d) = g at z2 z3 hg1 hg2
  have hOY : LOK (X1, sI (sI (sI (sI (sI P.2 ap np (nI u)) ap (10 + np) (nI n)) ac 0 0) ac 2 0) ac 3 (nI (np + 1))) ac ap aw := (((((hO.cl z4).st ap np (nI u)).st ap (10 + np) (nI n)).st ac 0 0).st ac 2 0).st ac 3 (nI (np + 1))
  have fc : aI (sI (sI (sI (sI (sI P.2 ap np (nI u)) ap (10 + np) (nI n)) ac 0 0) ac 2 0) ac 3 (nI (np + 1))) ac = upN (upN (upN (aI P.2 ac) 0 0) 2 0) 3 (nI (np + 1)) := by rw [yI_s, yI_s, yI_s, yI_o cp1, yI_o cp1]
  have fp : aI (sI (sI (sI (sI (sI P.2 ap np (nI u)) ap (10 + np) (nI n)) ac 0 0) ac 2 0) ac 3 (nI (np + 1))) ap = upN (upN (aI P.2 ap) np (nI u)) (10 + np) (nI n) := by rw [yI_o cp1.symm, yI_o cp1.symm, yI_o cp1.symm, yI_s, yI_s]
  have fw : aI (sI (sI (sI (sI (sI P.2 ap np (nI u)) ap (10 + np) (nI n)) ac 0 0) ac 2 0) ac 3 (nI (np + 1))) aw = aI P.2 aw := by rw [yI_o cp2.symm, yI_o cp2.symm, yI_o cp2.symm, yI_o cp3.symm, yI_o cp3.symm]
  unfold fL_writes_L56
  rw [if_pos hO.c1, cl1, d10, if_pos (show (0 : Int32) ≤ 0 by decide), if_pos hO.c3, cl3, i3, if_pos (hO.p np (by omega)), e10, inb_sI, if_pos hO.c0, inb_sI, if_pos (hO.p (10 + np) (by omega)), inb_sI, inb_sI, if_pos hO.c0, inb_sI, inb_sI, inb_sI, if_pos hO.c2, inb_sI, inb_sI, inb_sI, inb_sI, if_pos hO.c3, if_pos hO.c3, if_neg n10, if_pos hx, z1, nTW_r, bi_some, nI_clamp (by omega), nI_clamp (by omega), cl0, cl2, yI_o cp1, d0, yI_s, yI_s, yI_o cp1, yI_o cp1, un_o 2 3 (by decide), un_o 0 3 (by decide), i3, nI_1]
  generalize sI (sI (sI (sI (sI P.2 ap np (nI u)) ap (10 + np) (nI n)) ac 0 0) ac 2 0) ac 3 (nI (np + 1)) = Y at hOY fc fp fw
  rw [apC_ok hOY.2.2.2.1, if_pos rfl, if_pos (m_k z2), m_drafted z2, bi_some, if_pos (show nI 0 = (0 : Int32) from rfl), m_programs z2, bi_some, if_pos hOY.c3, fc, upN_s, if_pos rfl]
  obtain ⟨X2, y1, y2, y3⟩ := ok_isDrawing (P := (X1, Y)) (ac := ac) (ap := ap) (aw := aw) (q := np) hfu z3 z2 hOY (Nat.lt_succ_self np) h10
  rw [upN_s] at y1
  have hO2 := hOY.cl y3
  unfold fL_writes_L171
  rw [if_neg n10, y1, bW_some, apC_sI, apC_sI, apC_sI, apC_sI, apC_ok hO2.2.2.2.1, if_neg n10]
  exact ⟨_, rfl, w_new h10 hu hg1 hg2 cp1 cp3 d10 hI hp hw fc fp fw y2 z3 hO2⟩
theorem w_wipe {u : Nat} (hfu : 100000000 ≤ fu) (hbr : br K n ≠ []) (h : LwS x ac ap aw n K T V N n np G ne ew eo es nw wp we wc wo W H P) : ∃ P', fL_writes_L56 fu P x ac ap (nI u) 1 = some (1, P') ∧ LawI x ac ap aw P' := by
  obtain ⟨hS, hR, hO, ⟨d0, d1, d2⟩, hI, hp, hw⟩ := h
  obtain ⟨cp1, cp2, cp3⟩ := hO.cp
  have hx := m_k hS
  have hn30 := hR.1.1
  have hbl := br_len (K := K) n
  have e1 : ¬ nI (br K n).length ≤ 0 := fun q => hbr (List.eq_nil_of_length_eq_zero (by have := (nI_leI (by omega) (by omega : 0 < 2 ^ 31)).mp q; omega))
  obtain ⟨X1, z1, z2, z3, z4⟩ := m_wipe (fu := fu) (by omega) hS hR
  have hOY : LOK (X1, sI (sI (sI P.2 ac 0 0) ac 1 0) ac 2 0) ac ap aw := (((hO.cl z4).st ac 0 0).st ac 1 0).st ac 2 0
  have fc : aI (sI (sI (sI P.2 ac 0 0) ac 1 0) ac 2 0) ac = upN (upN (upN (aI P.2 ac) 0 0) 1 0) 2 0 := by rw [yI_s, yI_s, yI_s]
  have fp : aI (sI (sI (sI P.2 ac 0 0) ac 1 0) ac 2 0) ap = aI P.2 ap := by rw [yI_o cp1.symm, yI_o cp1.symm, yI_o cp1.symm]
  have fw : aI (sI (sI (sI P.2 ac 0 0) ac 1 0) ac 2 0) aw = aI P.2 aw := by rw [yI_o cp2.symm, yI_o cp2.symm, yI_o cp2.symm]
  unfold fL_writes_L56
  rw [if_pos hO.c1, cl1, d1, if_neg e1, if_pos hO.c0, if_pos hO.c0, inb_sI, if_pos hO.c1, inb_sI, inb_sI, if_pos hO.c2, if_neg n10, if_pos hx, z1, bW_some, bi_some, cl0, cl2, d0]
  generalize sI (sI (sI P.2 ac 0 0) ac 1 0) ac 2 0 = Y at hOY fc fp fw
  rw [apC_ok hOY.2.2.2.1, if_pos rfl]
  refine ⟨_, rfl, K, T, V, N, 0, np, G, ne, ew, eo, es, nw, wp, we, wc, wo, W, H, z2, z3, hOY, ?_, ?_, ?_, ?_⟩
  · show LId 0 K T 0 (aI Y ac)
    rw [fc]
    refine LId_0 ?_ ?_ upN_s
    · rw [un_o _ _ (by decide), un_o _ _ (by decide), upN_s]
    · rw [un_o _ _ (by decide), upN_s]
  · show LIn np ne nw W H (aI Y ac)
    rw [fc]
    exact LIn.cg hI (fun i h1 h2 => by rw [un_o _ _ (by omega), un_o _ _ (by omega), un_o _ _ (by omega)])
  · show LIp np G (aI Y ap)
    rw [fp]
    exact hp
  · show LIw ne ew eo es nw wp we wc (aI Y aw)
    rw [fw]
    exact hw
theorem w_56 {u : Nat} (hfu : 100000000 ≤ fu) (hn0 : 0 < n) (h10 : np < 10) (hu : u < 3) (h : LwS x ac ap aw n K T V N n np G ne ew eo es nw wp we wc wo W H P) : ∃ P', fL_writes_L56 fu P x ac ap (nI u) 1 = some (1, P') ∧ LawI x ac ap aw P' := by
  by_cases e : br K n = []
  · exact w_write hfu hn0 h10 hu e h
  · exact w_wipe hfu e h
end WRT
theorem w_3 {fu x ac ap aw u : Nat} (hfu : 100000000 ≤ fu) (hu : u < 3) : ∀ (t : Nat) {K T V N : Nat → Int32} {n np : Nat} {G : Nat → Pg} {ne : Nat} {ew : Nat → Nat} {eo es : Nat → Int32} {nw : Nat} {wp we : Nat → Nat} {wc : Nat → Int32} {wo : Nat → Option Nat} {W H : Nat} {P : LwP}, 30 ≤ n + t → 0 < n → np < 10 → LwS x ac ap aw n K T V N n np G ne ew eo es nw wp we wc wo W H P → ∃ P', fL_writes_L3 fu (t + 1) P x ac ap (nI u) 1 = some (1, P') ∧ LawI x ac ap aw P' := by
  intro t
  induction t with
  | zero =>
    intro K T V N n np G ne ew eo es nw wp we wc wo W H P ht hn0 h10 h
    obtain ⟨P', y1, y2⟩ := w_56 hfu hn0 h10 hu h
    obtain ⟨hS, hR, hO, ⟨d0, d1, d2⟩, hI, hp, hw⟩ := h
    have hn30 := hR.1.1
    refine ⟨P', ?_, y2⟩
    show fL_writes_L3b fu (fL_writes_L3 fu 0) P x ac ap (nI u) 1 = _
    unfold fL_writes_L3b
    rw [if_pos hO.c1, cl1, d1]
    by_cases e1 : nI (br K n).length ≤ 0
    · rw [if_pos e1]
      exact y1
    · rw [if_neg e1, if_pos hO.c0, cl0, d0, if_pos (show (30 : Int32) ≤ nI n from (nI_leI (by omega : 30 < 2 ^ 31) (by omega)).mpr (by omega))]
      exact y1
  | succ t ih =>
    intro K T V N n np G ne ew eo es nw wp we wc wo W H P ht hn0 h10 h
    have y := w_56 hfu hn0 h10 hu h
    have h0 := h
    obtain ⟨hS, hR, hO, ⟨d0, d1, d2⟩, hI, hp, hw⟩ := h
    obtain ⟨cp1, cp2, cp3⟩ := hO.cp
    have hn30 := hR.1.1
    have hbl := br_len (K := K) n
    have hx := m_k hS
    show ∃ P', fL_writes_L3b fu (fL_writes_L3 fu (t + 1)) P x ac ap (nI u) 1 = some (1, P') ∧ LawI x ac ap aw P'
    unfold fL_writes_L3b
    rw [if_pos hO.c1, cl1, d1]
    by_cases e1 : nI (br K n).length ≤ 0
    · rw [if_pos e1]
      exact y
    · rw [if_neg e1, if_pos hO.c0, cl0, d0]
      by_cases e2 : (30 : Int32) ≤ nI n
      · rw [if_pos e2]
        exact y
      · rw [if_neg e2]
        have hn : n < 30 := by
          refine Nat.lt_of_not_le fun q => e2 ((nI_leI (by omega : 30 < 2 ^ 31) (by omega)).mpr q)
        have hne : br K n ≠ [] := fun q => e1 (by rw [q]; decide)
        have hl0 : 0 < (br K n).length := Nat.pos_of_ne_zero (fun q => hne (List.eq_nil_of_length_eq_zero q))
        obtain ⟨X1, z1, z2, z3, z4⟩ := m_end hS hR hn hne
        have e9 : nI (br K n).length - 1 = nI ((br K n).length - 1) := by
          obtain ⟨j, hj⟩ : ∃ j, (br K n).length = j + 1 := ⟨(br K n).length - 1, by omega⟩
          rw [hj, nI_pred]
          rfl
        have h1 := (h0.inc (n + 1)).drf (X1 := X1) (Y := sI (sI P.2 ac 0 (nI (n + 1))) ac 1 (nI ((br K n).length - 1))) z2 z3 z4 rfl (LId.op (k := 8) (h0.inc (n + 1)).2.2.2.1 (by rw [yI_s, yI_s, un_o _ _ (by decide), upN_s]) (by rw [yI_s, upN_s, opn_8]) (by show aI (sI (sI P.2 ac 0 _) ac 1 _) ac 2 = aI (sI P.2 ac 0 _) ac 2; rw [yI_s, yI_s, un_o _ _ (by decide)]) (by decide)) (fun i q1 q2 => by
          show aI (sI (sI P.2 ac 0 _) ac 1 _) ac i = aI (sI P.2 ac 0 _) ac i
          rw [yI_s, yI_s, un_o _ _ (by omega)]) (by rw [yI_o cp1.symm]) (by rw [yI_o cp2.symm])
        obtain ⟨P', w1, w2⟩ := ih (by omega) (by omega) h10 h1
        refine ⟨P', ?_, w2⟩
        rw [← w1]
        generalize fL_writes_L3 fu (t + 1) = rec3
        unfold fL_writes_L51
        simp only [inb_sI, hO.c0, hO.c1, if_true, if_neg n10, if_pos hx, z1, nTW_r, bi_some, nI_1, yI_s, un_o (f := aI P.2 ac) 0 1 (by decide), d1, e9]
        rw [apC_sI, apC_sI, apC_ok (hO.cl z4).2.2.2.1]
        simp only [cl1, upN_s, if_true]
theorem ok_writes {fu x ac ap aw u : Nat} {K T V N : Nat → Int32} {n np : Nat} {G : Nat → Pg} {ne : Nat} {ew : Nat → Nat} {eo es : Nat → Int32} {nw : Nat} {wp we : Nat → Nat} {wc : Nat → Int32} {wo : Nat → Option Nat} {W H : Nat} {P : LwP} (hfu : 100000000 ≤ fu) (hu : u < 3) (hn0 : 0 < n) (h10 : np < 10) (h : LwS x ac ap aw n K T V N n np G ne ew eo es nw wp we wc wo W H P) : ∃ P', fL_writes fu P x ac ap (nI u) = some (1, P') ∧ LawI x ac ap aw P' := w_3 hfu hu 30 (by omega) hn0 h10 h
