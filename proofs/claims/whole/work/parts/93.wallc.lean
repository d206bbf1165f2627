/-! COUNTS; the calls that lay the wall anew -/
section CNT
variable {fu : Nat} {A ro pa ea wa : Nat → Nat} {K T V N : Nat → Int32} {n np : Nat} {G : Nat → Pg} {ne : Nat} {ew : Nat → Nat} {eo es : Nat → Int32} {nw : Nat} {wp we : Nat → Nat} {wc : Nat → Int32} {wo : Nat → Option Nat} {W H : Nat} {X : Mem} {S : SM} {o : Nat → Option Nat}
theorem x_hung8 {q : Int32} (B : BaseX A ro X) (P : PrsX A ro pa np G X) (Wk : WksX A ro pa ea wa nw wp we wc wo X) (Hg : HngX W wa nw o X) (pW : WksP np ne nw G wp we wc wo) : ∀ (t i m : Nat), i + t = nw → fX11_hung_L8 fu X (m + t + 1) (A 0) q (nI (cnB (fun w => o w ≠ none ∧ pgu (G (wp w)) = q) i)) (nI i) = some (.inr (nI (cnB (fun w => o w ≠ none ∧ pgu (G (wp w)) = q) nw))) := by
  have hnw := pW.1
  have h0 := B.k 0 11 0 (by decide)
  intro t
  induction t with
  | zero =>
    intro i m hi
    have hi : i = nw := hi
    subst hi
    show fX11_hung_L8b fu X (fX11_hung_L8 fu X m) (A 0) q _ (nI i) = _
    unfold fX11_hung_L8b
    rw [if_pos h0, Wk.1, if_pos (Int32.le_refl _)]
  | succ t ih =>
    intro i m hi
    obtain ⟨w1, w2, w3, w4, -⟩ := Wk.2.2 i (by omega)
    obtain ⟨q1, -⟩ := pW.2.1 i (by omega)
    obtain ⟨os, pa9, wa9, fo, dr, ra, ua, oa, h1, h2, -⟩ := (P.2 (wp i) q1).2
    have hg := Hg i (by omega)
    have nx := ih (i + 1) m (by omega)
    show fX11_hung_L8b fu X (fX11_hung_L8 fu X (m + t + 1)) (A 0) q _ (nI i) = _
    unfold fX11_hung_L8b fX11_hung_L61
    rw [if_pos h0, Wk.1, if_neg (fun q => by have := (nI_leI (by omega) (by omega)).mp q; omega), B.r 1107 0 8 (by decide), bi_some, alen_of (B.k 8 26 24 (by decide)) (by decide), bi_some, if_neg (fun q => by have := (nI_leI (by omega) (by omega)).mp q; omega), bi_some, if_pos (inb_of (t := 6) (B.k 8 26 24 (by decide)) (by omega : i < 24) (by omega)), nI_clamp (by omega), w1, if_neg (by exact fun q => nomatch q), bi_some, if_pos w2, w4, bi_some, if_pos h1.1.1, h2, nI_1, nI_1]
    cases eo9 : o i with
    | none =>
      rw [eo9] at hg
      rw [if_pos (show mI X 1004 (wa i) = 0 from hg)]
      rw [cnB_n (fun z => z.1 eo9)] at nx
      exact nx
    | some k =>
      rw [eo9] at hg
      rw [if_neg (by rw [hg.1]; decide)]
      by_cases e : pgu (G (wp i)) = q
      · rw [if_pos e]
        rw [cnB_y (P := fun w => o w ≠ none ∧ pgu (G (wp w)) = q) ⟨fun z => (by rw [eo9] at z; cases z), e⟩] at nx
        exact nx
      · rw [if_neg e]
        rw [cnB_n (fun z => e z.2)] at nx
        exact nx
theorem s_hung31 {q : Int32} (P : PrsS np G S) (Wk : WksS nw wp we wc S) (pP : PrsP np G) (pW : WksP np ne nw G wp we wc wo) (h30 : ∀ w, w < nw → ar S 30 w = plc W (o w)) (ho : ∀ w k, o w = some k → 100 * (k % W) + k / W < 2 ^ 31) : ∀ (t i m : Nat), i + t = nw → fX12_hung_L31 fu (m + t + 1) S q (nI (cnB (fun w => o w ≠ none ∧ pgu (G (wp w)) = q) i)) (nI i) = some (nI (cnB (fun w => o w ≠ none ∧ pgu (G (wp w)) = q) nw), S) := by
  have hnw := pW.1
  have hnp := pP.1
  intro t
  induction t with
  | zero =>
    intro i m hi
    have hi : i = nw := hi
    subst hi
    show fX12_hung_L31b fu (fX12_hung_L31 fu m) S q _ (nI i) = _
    unfold fX12_hung_L31b
    rw [Wk.1, if_pos (Int32.le_refl _)]
  | succ t ih =>
    intro i m hi
    obtain ⟨w1, w2⟩ := Wk.2.1 i (by omega)
    obtain ⟨q1, -⟩ := pW.2.1 i (by omega)
    have nx := ih (i + 1) m (by omega)
    show fX12_hung_L31b fu (fX12_hung_L31 fu (m + t + 1)) S q _ (nI i) = _
    unfold fX12_hung_L31b fX12_hung_L69 fX12_hung_L70
    rw [Wk.1, if_neg (fun q => by have := (nI_leI (by omega) (by omega)).mp q; omega), if_pos (inS_ok (by decide) rfl (by show i < 24; omega) (by decide)), if_pos (inS_ok (by decide) rfl (by show i < 24; omega) (by decide)), nI_clamp (show i < 2 ^ 31 by omega), h30 i (by omega), w1, if_pos (inS_ok (by decide) rfl (by show wp i < 30; omega) (by decide)), nI_clamp (show wp i < 2 ^ 31 by omega), (P.2 _ q1).2.1, Int32.add_zero, nI_1, nI_1]
    cases eo9 : o i with
    | none =>
      rw [if_pos (show plc W none = -1 from rfl)]
      rw [cnB_n (fun z => z.1 eo9)] at nx
      exact nx
    | some k =>
      rw [if_neg (show ¬ plc W (some k) = -1 from nI_nm1 (ho i k eo9))]
      by_cases e : pgu (G (wp i)) = q
      · rw [if_pos e]
        rw [cnB_y (P := fun w => o w ≠ none ∧ pgu (G (wp w)) = q) ⟨fun z => (by rw [eo9] at z; cases z), e⟩] at nx
        exact nx
      · rw [if_neg e]
        rw [cnB_n (fun z => e z.2)] at nx
        exact nx
theorem x_count4 (B : BaseX A ro X) (Wk : WksX A ro pa ea wa nw wp we wc wo X) (Hg : HngX W wa nw o X) (pW : WksP np ne nw G wp we wc wo) : ∀ (t i m : Nat), i + t = nw → fX11_countHanging_L4 fu X (m + t + 1) (A 0) (nI (cnB (fun w => o w ≠ none) i)) (nI i) = some (nI (cnB (fun w => o w ≠ none) nw)) := by
  have hnw := pW.1
  have h0 := B.k 0 11 0 (by decide)
  intro t
  induction t with
  | zero =>
    intro i m hi
    have hi : i = nw := hi
    subst hi
    show fX11_countHanging_L4b fu X (fX11_countHanging_L4 fu X m) (A 0) _ (nI i) = _
    unfold fX11_countHanging_L4b
    rw [if_pos h0, Wk.1, if_pos (Int32.le_refl _)]
  | succ t ih =>
    intro i m hi
    obtain ⟨w1, w2, -⟩ := Wk.2.2 i (by omega)
    have hg := Hg i (by omega)
    have nx := ih (i + 1) m (by omega)
    show fX11_countHanging_L4b fu X (fX11_countHanging_L4 fu X (m + t + 1)) (A 0) _ (nI i) = _
    unfold fX11_countHanging_L4b fX11_countHanging_L42
    rw [if_pos h0, Wk.1, if_neg (fun q => by have := (nI_leI (by omega) (by omega)).mp q; omega), B.r 1107 0 8 (by decide), bi_some, alen_of (B.k 8 26 24 (by decide)) (by decide), bi_some, if_neg (fun q => by have := (nI_leI (by omega) (by omega)).mp q; omega), bi_some, if_pos (inb_of (t := 6) (B.k 8 26 24 (by decide)) (by omega : i < 24) (by omega)), nI_clamp (by omega), w1, if_neg (by exact fun q => nomatch q), bi_some, if_pos w2, nI_1, nI_1]
    cases eo9 : o i with
    | none =>
      rw [eo9] at hg
      rw [if_pos (show mI X 1004 (wa i) = 0 from hg)]
      rw [cnB_n (fun z => z eo9)] at nx
      exact nx
    | some k =>
      rw [eo9] at hg
      rw [if_neg (by rw [hg.1]; decide)]
      rw [cnB_y (P := fun w => o w ≠ none) (fun z => by rw [eo9] at z; exact nomatch z)] at nx
      exact nx
theorem s_count53 (Wk : WksS nw wp we wc S) (pW : WksP np ne nw G wp we wc wo) (h30 : ∀ w, w < nw → ar S 30 w = plc W (o w)) (ho : ∀ w k, o w = some k → 100 * (k % W) + k / W < 2 ^ 31) : ∀ (t i m : Nat), i + t = nw → fX12_setWall_L53 fu (m + t + 1) S (nI (cnB (fun w => o w ≠ none) i)) (nI i) = some (nI (cnB (fun w => o w ≠ none) nw), S) := by
  have hnw := pW.1
  intro t
  induction t with
  | zero =>
    intro i m hi
    have hi : i = nw := hi
    subst hi
    show fX12_setWall_L53b fu (fX12_setWall_L53 fu m) S _ (nI i) = _
    unfold fX12_setWall_L53b
    rw [Wk.1, if_pos (Int32.le_refl _)]
  | succ t ih =>
    intro i m hi
    have nx := ih (i + 1) m (by omega)
    show fX12_setWall_L53b fu (fX12_setWall_L53 fu (m + t + 1)) S _ (nI i) = _
    unfold fX12_setWall_L53b fX12_setWall_L79
    rw [Wk.1, if_neg (fun q => by have := (nI_leI (by omega) (by omega)).mp q; omega), if_pos (inS_ok (by decide) rfl (by show i < 24; omega) (by decide)), nI_clamp (show i < 2 ^ 31 by omega), h30 i (by omega), Int32.add_zero, nI_1, nI_1]
    cases eo9 : o i with
    | none =>
      rw [if_pos (show plc W none = -1 from rfl)]
      rw [cnB_n (fun z => z eo9)] at nx
      exact nx
    | some k =>
      rw [if_neg (show ¬ plc W (some k) = -1 from nI_nm1 (ho i k eo9))]
      rw [cnB_y (P := fun w => o w ≠ none) (fun z => by rw [eo9] at z; exact nomatch z)] at nx
      exact nx
theorem x_meet4 {e : Nat} (hfu : 100 ≤ fu) (he : e < ne) (B : BaseX A ro X) (P : PrsX A ro pa np G X) (E : ExsX A ro pa ea ne ew eo es X) (Wk : WksX A ro pa ea wa nw wp we wc wo X) (pP : PrsP np G) (pE : ExsP np ne ew) (pW : WksP np ne nw G wp we wc wo) : ∀ (t i m : Nat), i + t = nw → fX11_countMeeting_L4 fu X (m + t + 1) (A 0) (some (ea e)) (nI (cnB (fun w => we w = e ∧ MtG G ew eo es wp we w) i)) (nI i) = some (nI (cnB (fun w => we w = e ∧ MtG G ew eo es wp we w) nw)) := by
  have hnw := pW.1
  have h0 := B.k 0 11 0 (by decide)
  intro t
  induction t with
  | zero =>
    intro i m hi
    have hi : i = nw := hi
    subst hi
    show fX11_countMeeting_L4b fu X (fX11_countMeeting_L4 fu X m) (A 0) _ _ (nI i) = _
    unfold fX11_countMeeting_L4b
    rw [if_pos h0, Wk.1, if_pos (Int32.le_refl _)]
  | succ t ih =>
    intro i m hi
    obtain ⟨w1, w2, w3, w4, w5, -⟩ := Wk.2.2 i (by omega)
    obtain ⟨r, c1, c2⟩ := x_meets (fu := fu) hfu P E Wk pP pE pW (by omega : i < nw)
    obtain ⟨-, q2, -⟩ := pW.2.1 i (by omega)
    have nx := ih (i + 1) m (by omega)
    show fX11_countMeeting_L4b fu X (fX11_countMeeting_L4 fu X (m + t + 1)) (A 0) _ _ (nI i) = _
    unfold fX11_countMeeting_L4b fX11_countMeeting_L54
    rw [if_pos h0, Wk.1, if_neg (fun q => by have := (nI_leI (by omega) (by omega)).mp q; omega), B.r 1107 0 8 (by decide), bi_some, alen_of (B.k 8 26 24 (by decide)) (by decide), bi_some, if_neg (fun q => by have := (nI_leI (by omega) (by omega)).mp q; omega), bi_some, if_pos (inb_of (t := 6) (B.k 8 26 24 (by decide)) (by omega : i < 24) (by omega)), nI_clamp (by omega), w1, if_neg (by exact fun q => nomatch q), bi_some, if_pos w2, w5, c1, bi_some, nI_1, nI_1]
    by_cases e9 : we i = e
    · rw [if_pos (by rw [e9])]
      rcases c2 with ⟨rfl, c2⟩ | ⟨rfl, c2⟩
      · rw [if_neg n10]
        rw [cnB_y (P := fun w => we w = e ∧ MtG G ew eo es wp we w) ⟨e9, c2⟩] at nx
        exact nx
      · rw [if_pos rfl]
        rw [cnB_n (fun z => c2 z.2)] at nx
        exact nx
    · rw [if_neg (fun z => e9 (E.2.1 _ _ q2 he (Option.some.inj z)))]
      rw [cnB_n (fun z => e9 z.1)] at nx
      exact nx
theorem s_meet54 {e : Nat} (hfu : 300 ≤ fu) (he : e < ne) (P : PrsS np G S) (E : ExsS ne ew eo es S) (Wk : WksS nw wp we wc S) (pP : PrsP np G) (pE : ExsP np ne ew) (pW : WksP np ne nw G wp we wc wo) : ∀ (t i m : Nat), i + t = nw → fX12_allow_L54 fu (m + t + 1) S (nI e) (nI (cnB (fun w => we w = e ∧ MtG G ew eo es wp we w) i)) (nI i) = some (nI (cnB (fun w => we w = e ∧ MtG G ew eo es wp we w) nw), S) := by
  have hnw := pW.1
  have hne := pE.1
  intro t
  induction t with
  | zero =>
    intro i m hi
    have hi : i = nw := hi
    subst hi
    show fX12_allow_L54b fu (fX12_allow_L54 fu m) S _ _ (nI i) = _
    unfold fX12_allow_L54b
    rw [Wk.1, if_pos (Int32.le_refl _)]
  | succ t ih =>
    intro i m hi
    obtain ⟨w1, w2⟩ := Wk.2.1 i (by omega)
    obtain ⟨r, c1, c2⟩ := s_meets (fu := fu) hfu P E Wk pP pE pW (by omega : i < nw)
    obtain ⟨-, q2, -⟩ := pW.2.1 i (by omega)
    have nx := ih (i + 1) m (by omega)
    show fX12_allow_L54b fu (fX12_allow_L54 fu (m + t + 1)) S _ _ (nI i) = _
    unfold fX12_allow_L54b fX12_allow_L89 fX12_allow_L90
    rw [Wk.1, if_neg (fun q => by have := (nI_leI (by omega) (by omega)).mp q; omega), if_pos (inS_ok (by decide) rfl (by show i < 24; omega) (by decide)), nI_clamp (show i < 2 ^ 31 by omega), w2, c1, bi_some, Int32.add_zero, nI_1, nI_1]
    by_cases e9 : we i = e
    · rw [if_pos (by rw [e9])]
      rcases c2 with ⟨rfl, c2⟩ | ⟨rfl, c2⟩
      · rw [if_neg n10]
        rw [cnB_y (P := fun w => we w = e ∧ MtG G ew eo es wp we w) ⟨e9, c2⟩] at nx
        exact nx
      · rw [if_pos rfl]
        rw [cnB_n (fun z => c2 z.2)] at nx
        exact nx
    · rw [if_neg (fun z => e9 ((nI_eq (by omega) (by omega)).mp z))]
      rw [cnB_n (fun z => e9 z.1)] at nx
      exact nx
end CNT
theorem x_pupil {X : Mem} (v : Int32) : ((∃ j, j < 6 ∧ v = nI j) ∧ fX11_checkPupil X v = some (.inr ())) ∨ ((¬ ∃ j, j < 6 ∧ v = nI j) ∧ fX11_checkPupil X v = some (.inl "java/lang/IndexOutOfBoundsException")) := by
  unfold fX11_checkPupil
  rcases pk_ix v (show 6 < 2 ^ 31 by omega) with h | h | ⟨j, hj, rfl⟩
  · rw [if_pos h]
    exact Or.inr ⟨fun ⟨j, hj, e⟩ => nI_pos (n := j) (by omega) (by rw [e] at h; exact h), rfl⟩
  · refine Or.inr ⟨fun ⟨j, hj, e⟩ => by rw [e] at h; have := (nI_leI (by omega) (by omega)).mp h; omega, ?_⟩
    by_cases h0 : v < 0
    · rw [if_pos h0]
    · rw [if_neg h0, if_neg (show ¬ v < (6 : Int32) from fun z => Int32.lt_irrefl (Int32.lt_of_lt_of_le z h))]
  · rw [if_neg (nI_pos (by omega)), if_pos (show nI j < (6 : Int32) from (nI_ltI (by omega) (by omega : 6 < 2 ^ 31)).mpr hj)]
    exact Or.inl ⟨⟨j, hj, rfl⟩, rfl⟩
theorem t_hung {fu : Nat} (hfu : 5000 ≤ fu) : sem_hung Rel fu := by
  intro x X S q0 hR hF
  have hR0 := hR
  obtain ⟨A, ro, pa, ea, wa, K, T, V, N, n, np, G, ne, ew, eo, es, nw, wp, we, wc, wo, W, H, rfl, ⟨B, D, P, E, Wk, Wl, Hg⟩, ⟨sD, sP, sE, sW, sL, s18⟩, ⟨pD, pP, pE, pW, pL⟩⟩ := hR
  have hnw := pW.1
  have hW := pL.2.1
  have hH := pL.2.2.2
  obtain ⟨r, e1, e2⟩ := s_in (S := S) (v := q0) (N := 6) (by omega)
  have e1 : fX12_isIn S q0 0 5 = some r := e1
  unfold fX11_hung fX12_hung fX12_hung_L15
  rw [e1, bi_some]
  rcases x_pupil (X := X) q0 with ⟨hj, hc⟩ | ⟨hn, hc⟩
  · have er : r = 1 := TF_un e2 (Or.inl ⟨rfl, hj⟩)
    obtain ⟨S1, k1, k2, k3⟩ := s_hangs (fu := fu) hfu (sP.sk (SK.t (v := 0))) (sE.sk (SK.t (v := 0))) (sW.sk (SK.t (v := 0))) (sL.sk (SK.t (v := 0))) pP pE pW pL
    have hs : sc S1 0 = 0 := by rw [k2.1, sc_uc, if_pos rfl]
    have sk1 : SK S S1 := SK.t.trans k2.sk
    have lo := (lay_oG (ew := ew) (eo := eo) (es := es) pP pW pL).1
    have z1 := x_hung8 (fu := fu) (q := q0) B P Wk Hg pW nw 0 (fu - nw - 1) (by omega)
    rw [show fu - nw - 1 + nw + 1 = fu by omega] at z1
    have y1 := s_hung31 (fu := fu) (q := q0) (sP.sk sk1) (sW.sk sk1) pP pW k3 (fun w k hk => by have := lo w k hk; omega) nw 0 (fu - nw - 1) (by omega)
    rw [show fu - nw - 1 + nw + 1 = fu by omega] at y1
    have z1 : fX11_hung_L8 fu X fu (A 0) q0 0 0 = _ := z1
    have y1 : fX12_hung_L31 fu fu S1 q0 0 0 = _ := y1
    rw [hc, bE_r, z1, er, if_neg n10, s_hold0, bW_some, if_neg n10, k1, bi_some, y1]
    exact ⟨_, _, _, rfl, rfl, hs, rfl, hR0.sk sk1, K9⟩
  · have er : r = 0 := TF_un e2 (Or.inr ⟨rfl, hn⟩)
    rw [hc, bE_l, er, if_pos rfl, s_holdN (by decide), bW_some, if_pos rfl]
    exact ⟨_, _, _, rfl, rfl, sem_ex (i := 0) (by decide) (by decide) rfl (hR0.sk SK.t)⟩
