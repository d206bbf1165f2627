/-! the law's own reading of works: does it meet, of which is it a copy, what an allowance alters -/
theorem wr_ix (k : Nat) (j : Nat) {v : Int32} (e : v = nI k) : v + nI j = nI (k + j) := by rw [e, nI_add]
theorem n1z : ¬ (1 : Int32) = 0 := by decide
section MEE
variable {fu x ac ap aw : Nat} {K T V N : Nat → Int32} {n np : Nat} {G : Nat → Pg} {ne : Nat} {ew : Nat → Nat} {eo es eo' es' : Nat → Int32} {nw : Nat} {wp we : Nat → Nat} {wc : Nat → Int32} {wo : Nat → Option Nat} {W H : Nat} {P : LwP}
theorem ok_meets {w : Nat} (hfu : 5000 ≤ fu) (hS : StX x K T V N n np G ne ew eo es nw wp we wc wo W H P.1) (hR : RelP K T V N n np G ne ew nw wp we wc wo W H) (hO : LOK P ac ap aw) (hI : LIn np ne nw W H (aI P.2 ac)) (hp : LIp np G (aI P.2 ap)) (hw : LIw ne ew eo' es' nw wp we wc (aI P.2 aw)) (h : w < nw) : ∃ r, fL_meets fu P x ac ap aw (nI w) = some r ∧ TF r (MtG G ew eo' es' wp we w) := by
  obtain ⟨i3, i4, i5, i6, i7, i8, i9, i10⟩ := hI
  obtain ⟨pD, pP, pE, pW, pL⟩ := id hR
  obtain ⟨v1, v2, -⟩ := pW.2.1 w h
  have e12 : (12 : Int32) + nI w = nI (12 + w) := wr_ix 12 w rfl
  have e22 : (22 : Int32) + nI w = nI (22 + w) := wr_ix 22 w rfl
  have e8 : (8 : Int32) + nI (we w) = nI (8 + we w) := wr_ix 8 _ rfl
  have e4 : (4 : Int32) + nI (we w) = nI (4 + we w) := wr_ix 4 _ rfl
  have e10 : (10 : Int32) + nI (wp w) = nI (10 + wp w) := wr_ix 10 _ rfl
  obtain ⟨w1, w2⟩ := hw.2.1 w h
  obtain ⟨u1, u2, u3⟩ := hw.1 (we w) v2
  have p3 := (hp (wp w) v1).2.2.1
  have hew : ew (we w) < np := pE.2 _ v2
  obtain ⟨r, a1, a2⟩ := m_areAlike hfu hS hR v1 hew
  unfold fL_meets
  rw [e12, e22, if_pos (hO.w (12 + w) (by omega)), if_pos (hO.w (22 + w) (by omega)), if_pos (m_k hS), nI_clamp (by omega), nI_clamp (by omega), w1, w2, m_fault hS hR v1, nT_r]
  by_cases c1 : cF (pgF (G (wp w))) = 0
  · rw [if_pos c1, m_steps hS hR v1, nT_r, e8, e4, e10, if_pos (hO.w (8 + we w) (by omega)), nI_clamp (by omega), u3]
    by_cases c2 : es' (we w) < nI (cC (pgF (G (wp w))))
    · rw [if_pos c2]
      exact ⟨0, rfl, Or.inr ⟨rfl, fun z => absurd z.2.2.1 (Int32.not_le.mpr c2)⟩⟩
    · rw [if_neg c2, if_pos (hO.p (10 + wp w) (by omega)), if_pos (hO.w (4 + we w) (by omega)), nI_clamp (by omega), nI_clamp (by omega), u2, p3]
      by_cases c3 : eo' (we w) < nI (pgn (G (wp w)))
      · rw [if_pos c3]
        exact ⟨0, rfl, Or.inr ⟨rfl, fun z => absurd z.2.1 (Int32.not_le.mpr c3)⟩⟩
      · rw [if_neg c3, if_pos (hO.w (we w) (by omega)), nI_clamp (by omega), u1, a1, nT_r]
        rcases a2 with ⟨rfl, a2⟩ | ⟨rfl, a2⟩
        · rw [if_neg n1z]
          exact ⟨1, rfl, Or.inl ⟨rfl, c1, Int32.not_lt.mp c3, Int32.not_lt.mp c2, a2⟩⟩
        · rw [if_pos rfl]
          exact ⟨0, rfl, Or.inr ⟨rfl, fun z => a2 z.2.2.2⟩⟩
  · rw [if_neg c1]
    exact ⟨0, rfl, Or.inr ⟨rfl, fun z => c1 z.1⟩⟩
theorem cp_loop {w : Nat} (hfu : 5000 ≤ fu) (hS : StX x K T V N n np G ne ew eo es nw wp we wc wo W H P.1) (hR : RelP K T V N n np G ne ew nw wp we wc wo W H) (hO : LOK P ac ap aw) (hI : LIn np ne nw W H (aI P.2 ac)) (hp : LIp np G (aI P.2 ap)) (hw : LIw ne ew eo' es' nw wp we wc (aI P.2 aw)) (h : w < nw) : ∀ (t k m : Nat), k + t = w → (∀ j, j < k → ¬ cpG G wp we w j) → fL_copyOf_L3 fu P (m + t + 1) x ap aw (nI w) (nI k) = some (oW (wo w)) := by
  obtain ⟨i3, i4, i5, i6, i7, i8, i9, i10⟩ := hI
  obtain ⟨pD, pP, pE, pW, pL⟩ := id hR
  obtain ⟨v1, v2, vo⟩ := pW.2.1 w h
  have e12 : (12 : Int32) + nI w = nI (12 + w) := wr_ix 12 w rfl
  have e22 : (22 : Int32) + nI w = nI (22 + w) := wr_ix 22 w rfl
  obtain ⟨w1, w2⟩ := hw.2.1 w h
  intro t
  induction t with
  | zero =>
    intro k m hk hj
    have hk : k = w := hk
    subst hk
    show fL_copyOf_L3b fu P (fL_copyOf_L3 fu P m) x ap aw (nI k) (nI k) = _
    unfold fL_copyOf_L3b
    rw [if_pos (Int32.le_refl _)]
    have : wo k = none := OrgP_un vo (show OrgP (cpG G wp we k) 0 k none from fun v _ h2 => hj v h2)
    rw [this]
    rfl
  | succ t ih =>
    intro k m hk hj
    have hkw : k < w := by omega
    obtain ⟨y1, y2, -⟩ := pW.2.1 k (by omega)
    obtain ⟨z1, z2⟩ := hw.2.1 k (by omega)
    have f12 : (12 : Int32) + nI k = nI (12 + k) := wr_ix 12 k rfl
    have f22 : (22 : Int32) + nI k = nI (22 + k) := wr_ix 22 k rfl
    have next : ¬ cpG G wp we w k → fL_copyOf_L68 fu P (fL_copyOf_L3 fu P (m + (t + 1))) x ap aw (nI w) (nI k) = some (oW (wo w)) := by
      intro hn
      unfold fL_copyOf_L68
      rw [nI_1, show m + (t + 1) = m + t + 1 by omega]
      refine ih (k + 1) m (by omega) (fun j h1 => ?_)
      by_cases e : j = k
      · rw [e]
        exact hn
      · exact hj j (by omega)
    show fL_copyOf_L3b fu P (fL_copyOf_L3 fu P (m + (t + 1))) x ap aw (nI w) (nI k) = _
    unfold fL_copyOf_L3b
    rw [if_neg (show ¬ nI w ≤ nI k from fun q => by have := (nI_leI (by omega) (by omega)).mp q; omega), e12, e22, f12, f22, if_pos (hO.w (22 + k) (by omega)), if_pos (hO.w (22 + w) (by omega)), nI_clamp (by omega), nI_clamp (by omega), nI_clamp (by omega), nI_clamp (by omega), w1, w2, z1, z2]
    by_cases c1 : nI (we k) = nI (we w)
    · have c1' : we k = we w := (nI_eq (by omega) (by omega)).mp c1
      rw [if_pos c1, if_pos (hO.w (12 + k) (by omega)), if_pos (hO.p (wp k) (by omega)), if_pos (hO.w (12 + w) (by omega)), if_pos (hO.p (wp w) (by omega)), nI_clamp (by omega), nI_clamp (by omega), (hp (wp k) y1).1, (hp (wp w) v1).1]
      by_cases c2 : pgu (G (wp k)) = pgu (G (wp w))
      · rw [if_pos c2]
        exact next (fun q => q.2.1 c2)
      · obtain ⟨r, a1, a2⟩ := m_haveOneForm hfu hS hR y1 v1
        rw [if_neg c2, if_pos (hO.w (12 + k) (by omega)), if_pos (hO.w (12 + w) (by omega)), if_pos (m_k hS), a1, nT_r]
        rcases a2 with ⟨rfl, a2⟩ | ⟨rfl, a2⟩
        · rw [if_neg n1z]
          have : wo w = some k := OrgP_un vo (show OrgP (cpG G wp we w) 0 w (some k) from ⟨Nat.zero_le _, hkw, ⟨c1', c2, a2⟩, fun j _ h2 => hj j h2⟩)
          rw [this]
          rfl
        · rw [if_pos rfl]
          exact next (fun q => a2 q.2.2)
    · rw [if_neg c1]
      exact next (fun q => c1 (by rw [q.1]))
theorem ok_copyOf {w : Nat} (hfu : 5000 ≤ fu) (hS : StX x K T V N n np G ne ew eo es nw wp we wc wo W H P.1) (hR : RelP K T V N n np G ne ew nw wp we wc wo W H) (hO : LOK P ac ap aw) (hI : LIn np ne nw W H (aI P.2 ac)) (hp : LIp np G (aI P.2 ap)) (hw : LIw ne ew eo' es' nw wp we wc (aI P.2 aw)) (h : w < nw) : fL_copyOf fu P x ap aw (nI w) = some (oW (wo w)) := by
  have h10 := hI.2.2.2.2.2.2.2
  unfold fL_copyOf
  have := cp_loop hfu hS hR hO hI hp hw h w 0 (fu - w - 1) (by omega) (fun j hj => absurd hj (Nat.not_lt_zero _))
  rw [show fu - w - 1 + w + 1 = fu by omega] at this
  exact this
theorem al_loop {e : Nat} {q1 q2 : Int32} (hfu : 5000 ≤ fu) (hS : StX x K T V N n np G ne ew eo es nw wp we wc wo W H P.1) (hR : RelP K T V N n np G ne ew nw wp we wc wo W H) (hO : LOK P ac ap aw) (hI : LIn np ne nw W H (aI P.2 ac)) (hp : LIp np G (aI P.2 ap)) (hw : LIw ne ew eo' es' nw wp we wc (aI P.2 aw)) (he : e < ne) {X1 : Mem} (hc : fX11_allow fu P.1 x (nI e) q1 q2 = some (.inr (nI (cnB (fun w => we w = e ∧ MtG G ew eo' es' wp we w) nw), X1))) (hap : apM X1 P.2) : ∀ (t k m : Nat), k + t = nw → fL_allows_L23 fu (m + t + 1) P x ac ap aw (nI e) q1 q2 (nI (cnB (fun w => we w = e ∧ MtG G ew eo' es' wp we w) k)) (nI k) = some (1, (X1, P.2)) := by
  obtain ⟨i3, i4, i5, i6, i7, i8, i9, i10⟩ := id hI
  obtain ⟨pD, pP, pE, pW, pL⟩ := id hR
  intro t
  induction t with
  | zero =>
    intro k m hk
    have hk : k = nw := hk
    subst hk
    show fL_allows_L23b fu (fL_allows_L23 fu m) P x ac ap aw (nI e) q1 q2 _ (nI k) = _
    unfold fL_allows_L23b
    rw [if_pos hO.c5, cl5, i5, if_pos (Int32.le_refl _), if_pos (m_k hS), hc, nTW_r, bi_some, apC_ok hap, if_pos rfl]
  | succ t ih =>
    intro k m hk
    have hkn : k < nw := by omega
    obtain ⟨y1, y2, -⟩ := pW.2.1 k hkn
    obtain ⟨z1, z2⟩ := hw.2.1 k hkn
    have f22 : (22 : Int32) + nI k = nI (22 + k) := wr_ix 22 k rfl
    have y := ih (k + 1) m (by omega)
    show fL_allows_L23b fu (fL_allows_L23 fu (m + (t + 1))) P x ac ap aw (nI e) q1 q2 _ (nI k) = _
    unfold fL_allows_L23b
    rw [if_pos hO.c5, cl5, i5, if_neg (show ¬ nI nw ≤ nI k from fun q => by have := (nI_leI (by omega) (by omega)).mp q; omega), f22, if_pos (hO.w (22 + k) (by omega)), nI_clamp (by omega), z2]
    have no : ¬ (we k = e ∧ MtG G ew eo' es' wp we k) → fL_allows_L61 fu (fL_allows_L23 fu (m + (t + 1))) P x ac ap aw (nI e) q1 q2 (nI k) (nI (cnB (fun w => we w = e ∧ MtG G ew eo' es' wp we w) k)) = some (1, (X1, P.2)) := by
      intro hn
      unfold fL_allows_L61 fL_allows_L62
      rw [cnB_n hn] at y
      rw [show (0 : Int32) = nI 0 from rfl, nI_add, nI_1]
      exact y
    by_cases c1 : nI (we k) = nI e
    · have c1' : we k = e := (nI_eq (by omega) (by omega)).mp c1
      rw [if_pos c1]
      obtain ⟨r, a1, a2⟩ := ok_meets hfu hS hR hO hI hp hw hkn
      rw [a1, bi_some]
      rcases a2 with ⟨rfl, a2⟩ | ⟨rfl, a2⟩
      · rw [if_neg n1z]
        unfold fL_allows_L62
        rw [cnB_y (P := fun w => we w = e ∧ MtG G ew eo' es' wp we w) ⟨c1', a2⟩] at y
        rw [nI_1, nI_1]
        exact y
      · rw [if_pos rfl]
        exact no (fun q => a2 q.2)
    · rw [if_neg c1]
      exact no (fun q => c1 (by rw [q.1]))
theorem ok_allows {e : Nat} {q1 q2 : Int32} (hfu : 5000 ≤ fu) (h : LwS x ac ap aw n K T V N n np G ne ew eo es nw wp we wc wo W H P) (he : e < ne) (hl : (1 ≤ q1 ∧ q1 ≤ 30) ∧ (0 ≤ q2 ∧ q2 ≤ 600)) : ∃ P', fL_allows fu P x ac ap aw (nI e) q1 q2 = some (1, P') ∧ LwS x ac ap aw n K T V N n np G ne ew (upN eo e q1) (upN es e q2) nw wp we wc wo W H P' := by
  obtain ⟨hS, hR, hO, hD, hI, hp, hw⟩ := h
  obtain ⟨cp1, cp2, cp3⟩ := hO.cp
  obtain ⟨i3, i4, i5, i6, i7, i8, i9, i10⟩ := id hI
  have e4 : (4 : Int32) + nI e = nI (4 + e) := wr_ix 4 e rfl
  have e8 : (8 : Int32) + nI e = nI (8 + e) := wr_ix 8 e rfl
  obtain ⟨X1, z1, z2, z3⟩ := m_allow hfu hS hR he hl
  have fc : aI (sI (sI P.2 aw (4 + e) q1) aw (8 + e) q2) ac = aI P.2 ac := by rw [yI_o cp2, yI_o cp2]
  have fp : aI (sI (sI P.2 aw (4 + e) q1) aw (8 + e) q2) ap = aI P.2 ap := by rw [yI_o cp3, yI_o cp3]
  have fw : aI (sI (sI P.2 aw (4 + e) q1) aw (8 + e) q2) aw = upN (upN (aI P.2 aw) (4 + e) q1) (8 + e) q2 := by rw [yI_s, yI_s]
  have hOY : LOK (P.1, sI (sI P.2 aw (4 + e) q1) aw (8 + e) q2) ac ap aw := (hO.st aw (4 + e) q1).st aw (8 + e) q2
  unfold fL_allows
  rw [e4, e8, if_pos (hO.w (4 + e) (by omega)), inb_sI, if_pos (hO.w (8 + e) (by omega)), nI_clamp (by omega), nI_clamp (by omega)]
  generalize sI (sI P.2 aw (4 + e) q1) aw (8 + e) q2 = Y at fc fp fw hOY
  have hIY : LIn np ne nw W H (aI Y ac) := by rw [fc]; exact hI
  have hpY : LIp np G (aI Y ap) := by rw [fp]; exact hp
  have hwY : LIw ne ew (upN eo e q1) (upN es e q2) nw wp we wc (aI Y aw) := by
    rw [fw]
    refine ⟨fun j hj => ?_, fun j hj => ?_, fun j hj => ?_⟩
    · obtain ⟨a1, a2, a3⟩ := hw.1 j hj
      refine ⟨by rw [un_o _ _ (by omega), un_o _ _ (by omega)]; exact a1, ?_, ?_⟩
      · rw [un_o _ _ (by omega)]
        by_cases q : j = e
        · rw [q, upN_s, upN_s]
        · rw [un_o _ _ (by omega), un_o _ _ q]
          exact a2
      · by_cases q : j = e
        · rw [q, upN_s, upN_s]
        · rw [un_o _ _ (by omega), un_o _ _ (by omega), un_o _ _ q]
          exact a3
    · obtain ⟨a1, a2⟩ := hw.2.1 j hj
      exact ⟨by rw [un_o _ _ (by omega), un_o _ _ (by omega)]; exact a1, by rw [un_o _ _ (by omega), un_o _ _ (by omega)]; exact a2⟩
    · rw [un_o _ _ (by omega), un_o _ _ (by omega)]
      exact hw.2.2 j hj
  have hO1 := hOY.cl z3
  have y := al_loop (P := (P.1, Y)) hfu hS hR hOY hIY hpY hwY he z1 hO1.2.2.2.1 nw 0 (fu - nw - 1) (by omega)
  rw [show fu - nw - 1 + nw + 1 = fu by omega] at y
  exact ⟨_, y, z2, hR, hO1, by show LId n K T n (aI Y ac); rw [fc]; exact hD, hIY, hpY, hwY⟩
end MEE
