/-! handIn -/
section ORG
variable {fu : Nat} {A ro pa ea wa : Nat → Nat} {np : Nat} {G : Nat → Pg} {ne : Nat} {ew : Nat → Nat} {eo es : Nat → Int32} {nw : Nat} {wp we : Nat → Nat} {wc : Nat → Int32} {wo : Nat → Option Nat} {X : Mem}
theorem x_orig {p e : Nat} (hfu : 200 ≤ fu) (hp : p < np) (he : e < ne) (B : BaseX A ro X) (P : PrsX A ro pa np G X) (E : ExsX A ro pa ea ne ew eo es X) (Wk : WksX A ro pa ea wa nw wp we wc wo X) (pP : PrsP np G) (pW : WksP np ne nw G wp we wc wo) : ∃ o, fX11_findOriginal fu X (A 0) (some (pa p)) (some (ea e)) = some (oW o) ∧ OrgP (fun v => we v = e ∧ pgu (G (wp v)) ≠ pgu (G p) ∧ FoG (G (wp v)) (G p)) 0 nw o := by
  have hnw := pW.1
  have h0 := B.k 0 11 0 (by decide)
  have key : ∀ (t i m : Nat), i + t = nw → (∀ v, v < i → ¬ (we v = e ∧ pgu (G (wp v)) ≠ pgu (G p) ∧ FoG (G (wp v)) (G p))) → ∃ o, fX11_findOriginal_L2 fu X (m + t + 1) (A 0) (some (pa p)) (some (ea e)) (nI i) = some (oW o) ∧ OrgP (fun v => we v = e ∧ pgu (G (wp v)) ≠ pgu (G p) ∧ FoG (G (wp v)) (G p)) 0 nw o := by
    intro t
    induction t with
    | zero =>
      intro i m hi hn
      have hi : i = nw := hi
      subst hi
      refine ⟨none, ?_, fun v _ hv => hn v hv⟩
      show fX11_findOriginal_L2b fu X (fX11_findOriginal_L2 fu X m) (A 0) (some (pa p)) (some (ea e)) (nI i) = _
      unfold fX11_findOriginal_L2b
      rw [if_pos h0, Wk.1, if_pos (Int32.le_refl _)]
      rfl
    | succ t ih =>
      intro i m hi hn
      obtain ⟨w1, w2, w3, w4, w5, -⟩ := Wk.2.2 i (by omega)
      obtain ⟨q1, q2, -⟩ := pW.2.1 i (by omega)
      obtain ⟨r, c1, c2⟩ := x_form (fu := fu) (by omega) (P.2 (wp i) q1).2 (P.2 p hp).2 (pP.2 _ q1) (pP.2 p hp)
      obtain ⟨os, pa9, wa9, fo, dr, ra, ua, oa, h1, h2, -⟩ := (P.2 (wp i) q1).2
      obtain ⟨os', pa9', wa9', fo', dr', ra', ua', oa', i1, i2, -⟩ := (P.2 p hp).2
      have nx : ¬ (we i = e ∧ pgu (G (wp i)) ≠ pgu (G p) ∧ FoG (G (wp i)) (G p)) → ∃ o, fX11_findOriginal_L2 fu X (m + t + 1) (A 0) (some (pa p)) (some (ea e)) (nI (i + 1)) = some (oW o) ∧ OrgP (fun v => we v = e ∧ pgu (G (wp v)) ≠ pgu (G p) ∧ FoG (G (wp v)) (G p)) 0 nw o := fun hno => ih (i + 1) m (by omega) (fun v hv => by
        by_cases ev : v = i
        · rw [ev]; exact hno
        · exact hn v (by omega))
      show ∃ o, fX11_findOriginal_L2b fu X (fX11_findOriginal_L2 fu X (m + t + 1)) (A 0) (some (pa p)) (some (ea e)) (nI i) = some (oW o) ∧ _
      unfold fX11_findOriginal_L2b fX11_findOriginal_L70
      rw [if_pos h0, Wk.1, if_neg (fun q => by have := (nI_leI (by omega) (by omega)).mp q; omega), B.r 1107 0 8 (by decide), bi_some, alen_of (B.k 8 26 24 (by decide)) (by decide), bi_some, if_neg (fun q => by have := (nI_leI (by omega) (by omega)).mp q; omega), bi_some, if_pos (inb_of (t := 6) (B.k 8 26 24 (by decide)) (by omega : i < 24) (by omega)), nI_clamp (by omega), w1, if_neg (by exact fun q => nomatch q), bi_some, if_pos w2, w5, w4, nI_1]
      by_cases e9 : we i = e
      · rw [if_pos (by rw [e9]), bi_some, if_pos h1.1.1, bi_some, if_pos i1.1.1, h2, i2]
        by_cases eu : pgu (G (wp i)) = pgu (G p)
        · rw [if_pos eu]
          exact nx (fun z => z.2.1 eu)
        · rw [if_neg eu, bi_some, if_pos h1.1.1, c1, bi_some]
          rcases c2 with ⟨rfl, c2⟩ | ⟨rfl, c2⟩
          · rw [if_neg n10]
            exact ⟨some i, rfl, Nat.zero_le i, by omega, ⟨e9, eu, c2⟩, fun u _ hu => hn u hu⟩
          · rw [if_pos rfl]
            exact nx (fun z => c2 z.2.2)
      · rw [if_neg (fun z => e9 (E.2.1 _ _ q2 he (Option.some.inj z)))]
        exact nx (fun z => e9 z.1)
  have k := key nw 0 (fu - nw - 1) (by omega) (fun v hv => absurd hv (Nat.not_lt_zero v))
  rw [show fu - nw - 1 + nw + 1 = fu by omega] at k
  exact k
end ORG
theorem t_handIn {fu : Nat} (hfu : 5000 ≤ fu) : sem_handIn Rel fu := by
  intro x X S q0 q1 hR hF
  have hR0 := hR
  obtain ⟨A, ro, pa, ea, wa, K, T, V, N, n, np, G, ne, ew, eo, es, nw, wp, we, wc, wo, W, H, rfl, ⟨B, D, P, E, Wk, Wl, Hg⟩, ⟨sD, sP, sE, sW, sL, s18⟩, ⟨pD, pP, pE, pW, pL⟩⟩ := hR
  have hne := pE.1
  have b1 := pP.1
  have hnw := pW.1
  have hx := B.k 0 11 0 (by decide)
  obtain ⟨r, e1, e2⟩ := s_prog (v := q0) sP.1 b1
  obtain ⟨r', f1, f2⟩ := s_exer (v := q1) sE.1 hne
  have badr : ∀ v : Int32, ¬ v = 0 → fX12_handIn_L45 S q0 q1 v = some (0, uc S 0 v) := by
    intro v hv
    unfold fX12_handIn_L45
    rw [s_holdN hv, bW_some, if_pos rfl]
  have l20 : fX12_handIn_L20 S q0 q1 = some (0, uc S 0 1) := by
    unfold fX12_handIn_L20 fX12_handIn_L21
    rw [if_pos rfl, badr 1 (by decide)]
  unfold fX11_handIn fX12_handIn
  rw [if_pos hx, e1, bi_some, f1, bi_some, l20]
  rcases x_prog B P b1 q0 with ⟨p, hp, rfl, e⟩ | ⟨hn, e⟩
  · have er : r = 1 := TF_un e2 (Or.inl ⟨rfl, p, hp, rfl⟩)
    rw [e, bE_r, er, if_neg n10]
    rcases x_exer B E hne q1 with ⟨u, hu, rfl, ee⟩ | ⟨hn, ee⟩
    · have er' : r' = 1 := TF_un f2 (Or.inl ⟨rfl, u, hu, rfl⟩)
      unfold fX12_handIn_L21
      rw [ee, bE_r, Wk.1, if_neg (nI_pos (by omega)), B.r 1107 0 8 (by decide), bi_some, alen_of (B.k 8 26 24 (by decide)) (by decide), bi_some, er', if_neg n10, if_neg n10, sW.1, badr 2 (by decide)]
      by_cases h24 : nw = 24
      · rw [if_neg (fun z => by have := (nI_ltI (by omega) (by omega)).mp z; omega), if_pos (by rw [h24]; rfl)]
        exact ⟨_, _, _, rfl, rfl, sem_ex (i := 1) (by decide) (by decide) rfl (hR0.sk SK.t)⟩
      · have h244 : ¬ nI nw = (24 : Int32) := fun z => h24 ((nI_eq (by omega) (by omega : 24 < 2 ^ 31)).mp z)
        have hxl := hF.lt hx
        have h8 := B.k 8 26 24 (by decide)
        have h8l := hF.lt h8
        have id9 : ∀ a, a < mZ X → ro a = ro a := fun _ _ => rfl
        have fo0 : Fm (fun _ => False) X (nO X 10) := Fm.nO
        have no : ∀ (L : List Nat) (a : Nat), ro a ∈ L → ¬ False := fun _ _ _ z => z
        have rk0 : RfK X (nO X 10) := fun a ha k _ _ => mR_nO (by omega)
        have B0 : BaseX A ro (nO X 10) := B.fm hF fo0 rk0 id9 (B.2.2.fm hF (B.k 4 0 0 (by decide)) fo0 id9 (fun z => z))
        obtain ⟨o, o1, o2⟩ := x_orig (fu := fu) (by omega) hp hu B0 (P.fm B hF fo0 id9 (no _)) (E.fm B hF fo0 id9 (no _)) (Wk.fm B hF fo0 id9 (no _)) pP pW
        rw [if_pos ((nI_ltI (by omega) (by omega)).mpr (by omega)), bi_some, bi_some, if_pos (B0.k 0 11 0 (by decide)), o1, bi_some, if_neg h244]
        have i1 : fX10_init (nO X 10) (mZ X) (some (pa p)) (some (ea u)) (oW o) = some (wI (wR (wR (nO X 10) 1000 (mZ X) (some (pa p))) 1001 (mZ X) (some (ea u))) 1002 (mZ X) (oW o)) := if_pos mK_nO0
        rw [i1, bi_some, bi_some]
        have k8 : mK (wI (wR (wR (nO X 10) 1000 (mZ X) (some (pa p))) 1001 (mZ X) (some (ea u))) 1002 (mZ X) (oW o)) (A 8) = some (26, 24) := (mK_nO (by omega)).trans h8
        have kq : mK (wI (wR (wR (nO X 10) 1000 (mZ X) (some (pa p))) 1001 (mZ X) (some (ea u))) 1002 (mZ X) (oW o)) (mZ X) = some (10, 0) := mK_nO0
        have kx : mK (sR (wI (wR (wR (nO X 10) 1000 (mZ X) (some (pa p))) 1001 (mZ X) (some (ea u))) 1002 (mZ X) (oW o)) (A 8) (nI nw).toNatClampNeg (some (mZ X))) (A 0) = some (11, 0) := (mK_nO (by omega)).trans hx
        rw [if_pos (inb_of (t := 6) k8 (by omega : nw < 24) (by omega)), if_pos kq, if_pos kx, nI_clamp (by omega), nI_1]
        have fm0 : Fm (fun b => b = mZ X ∨ b = A 8 ∨ b = A 0) X (wI (sR (wI (wR (wR (nO X 10) 1000 (mZ X) (some (pa p))) 1001 (mZ X) (some (ea u))) 1002 (mZ X) (oW o)) (A 8) nw (some (mZ X))) 1110 (A 0) (nI (nw + 1))) := ((((Fm.nO.trans (Fm.wR (Or.inl rfl))).trans (Fm.wR (Or.inl rfl))).trans (Fm.wI (Or.inl (Or.inl rfl)))).trans (Fm.sR (Or.inr (Or.inl rfl)))).trans (Fm.wI (Or.inl (Or.inr (Or.inr rfl))))
        have fm : Fm (fun b => b = A 8 ∨ b = A 0) X (wI (sR (wI (wR (wR (nO X 10) 1000 (mZ X) (some (pa p))) 1001 (mZ X) (some (ea u))) 1002 (mZ X) (oW o)) (A 8) nw (some (mZ X))) 1110 (A 0) (nI (nw + 1))) := fm0.mono (fun b hb z => z.elim (fun y => by omega) id)
        have g1 : FreshM (wI (sR (wI (wR (wR (nO X 10) 1000 (mZ X) (some (pa p))) 1001 (mZ X) (some (ea u))) 1002 (mZ X) (oW o)) (A 8) nw (some (mZ X))) 1110 (A 0) (nI (nw + 1))) := (hF.nO (c := 10)).cg rfl rfl
        have rk : RfK X (wI (sR (wI (wR (wR (nO X 10) 1000 (mZ X) (some (pa p))) 1001 (mZ X) (some (ea u))) 1002 (mZ X) (oW o)) (A 8) nw (some (mZ X))) 1110 (A 0) (nI (nw + 1))) := by
          intro a ha k _ _
          rw [mR_wIx, mR_sR, mR_wIx, mR_wR, if_neg (by omega), mR_wR, if_neg (by omega), mR_nO (by omega)]
        have m8 : ∀ k, k ≠ 1110 → mI (wI (sR (wI (wR (wR (nO X 10) 1000 (mZ X) (some (pa p))) 1001 (mZ X) (some (ea u))) 1002 (mZ X) (oW o)) (A 8) nw (some (mZ X))) 1110 (A 0) (nI (nw + 1))) k (A 0) = mI X k (A 0) := by
          intro k hk
          rw [mI_wI, if_neg (by omega), mI_sR, mI_wI, if_neg (by omega), mI_wR, mI_wR, mI_nO (by omega)]
        have n9 : mI (wI (sR (wI (wR (wR (nO X 10) 1000 (mZ X) (some (pa p))) 1001 (mZ X) (some (ea u))) 1002 (mZ X) (oW o)) (A 8) nw (some (mZ X))) 1110 (A 0) (nI (nw + 1))) 1110 (A 0) = nI (nw + 1) := by rw [mI_wI, if_pos ⟨rfl, rfl⟩]
        have a8 : ∀ j, aR (wI (sR (wI (wR (wR (nO X 10) 1000 (mZ X) (some (pa p))) 1001 (mZ X) (some (ea u))) 1002 (mZ X) (oW o)) (A 8) nw (some (mZ X))) 1110 (A 0) (nI (nw + 1))) (A 8) j = if j = nw then some (mZ X) else aR X (A 8) j := by
          intro j
          rw [aR_wIx, aR_sR]
          by_cases ej : j = nw
          · rw [if_pos ⟨rfl, ej⟩, if_pos ej]
          · rw [if_neg (fun z => ej z.2), if_neg ej]
            rfl
        have nq1 : mR (wI (sR (wI (wR (wR (nO X 10) 1000 (mZ X) (some (pa p))) 1001 (mZ X) (some (ea u))) 1002 (mZ X) (oW o)) (A 8) nw (some (mZ X))) 1110 (A 0) (nI (nw + 1))) 1000 (mZ X) = some (pa p) := by rw [mR_wIx, mR_sR, mR_wIx, mR_wR, if_neg (by omega), mR_wR, if_pos ⟨rfl, rfl⟩]
        have nq2 : mR (wI (sR (wI (wR (wR (nO X 10) 1000 (mZ X) (some (pa p))) 1001 (mZ X) (some (ea u))) 1002 (mZ X) (oW o)) (A 8) nw (some (mZ X))) 1110 (A 0) (nI (nw + 1))) 1001 (mZ X) = some (ea u) := by rw [mR_wIx, mR_sR, mR_wIx, mR_wR, if_pos ⟨rfl, rfl⟩]
        have nq3 : mI (wI (sR (wI (wR (wR (nO X 10) 1000 (mZ X) (some (pa p))) 1001 (mZ X) (some (ea u))) 1002 (mZ X) (oW o)) (A 8) nw (some (mZ X))) 1110 (A 0) (nI (nw + 1))) 1002 (mZ X) = oW o := by rw [mI_wI, if_neg (by omega), mI_sR, mI_wI, if_pos ⟨rfl, rfl⟩]
        have nq4 : mI (wI (sR (wI (wR (wR (nO X 10) 1000 (mZ X) (some (pa p))) 1001 (mZ X) (some (ea u))) 1002 (mZ X) (oW o)) (A 8) nw (some (mZ X))) 1110 (A 0) (nI (nw + 1))) 1003 (mZ X) = 0 := by rw [mI_wI, if_neg (by omega), mI_sR, mI_wI, if_neg (by omega), mI_wR, mI_wR, mI_nO0]
        have nq0 : mK (wI (sR (wI (wR (wR (nO X 10) 1000 (mZ X) (some (pa p))) 1001 (mZ X) (some (ea u))) 1002 (mZ X) (oW o)) (A 8) nw (some (mZ X))) 1110 (A 0) (nI (nw + 1))) (mZ X) = some (10, 0) := mK_nO0
        generalize wI (sR (wI (wR (wR (nO X 10) 1000 (mZ X) (some (pa p))) 1001 (mZ X) (some (ea u))) 1002 (mZ X) (oW o)) (A 8) nw (some (mZ X))) 1110 (A 0) (nI (nw + 1)) = X1 at fm g1 rk m8 n9 a8 nq0 nq1 nq2 nq3 nq4 ⊢
        have hP : ∀ (L : List Nat), 8 ∉ L → 0 ∉ L → ∀ a, ro a ∈ L → ¬ (a = A 8 ∨ a = A 0) := by
          rintro L h1 h2 a ha (z | z)
          · rw [z, B.o 8 26 24 (by decide)] at ha; exact h1 ha
          · rw [z, B.o 0 11 0 (by decide)] at ha; exact h2 ha
        have hro : ∀ a, a < mZ X → (fun a => if a < mZ X then ro a else 20) a = ro a := fun a ha => if_pos ha
        have B1 : BaseX A (fun a => if a < mZ X then ro a else 20) X1 := B.fm hF fm rk hro (B.2.2.fm hF (B.k 4 0 0 (by decide)) fm hro (hP [4] (by decide) (by decide) _ (by rw [B.o 4 0 0 (by decide)]; decide)))
        have Wk1 : WksX A (fun a => if a < mZ X then ro a else 20) pa ea (upN wa nw (mZ X)) (nw + 1) (upN wp nw p) (upN we nw u) wc (upN wo nw o) X1 := by
          refine ⟨n9, fun i j hi hj hij => ?_, fun i hi => ?_⟩
          · by_cases ei : i = nw
            · by_cases ej : j = nw
              · omega
              · rw [ei, upN_s, upN_o ej] at hij
                have := hF.lt (Wk.2.2 j (by omega)).2.1
                omega
            · by_cases ej : j = nw
              · rw [ej, upN_s, upN_o ei] at hij
                have := hF.lt (Wk.2.2 i (by omega)).2.1
                omega
              · rw [upN_o ei, upN_o ej] at hij
                exact Wk.2.1 i j (by omega) (by omega) hij
          · by_cases ei : i = nw
            · subst ei
              rw [upN_s, upN_s, upN_s, upN_s, nq1, nq2, nq3, nq4, pW.2.2.2 i (Nat.le_refl i) (by omega)]
              exact ⟨by rw [a8, if_pos rfl], nq0, if_neg (Nat.lt_irrefl _), rfl, rfl, rfl, rfl⟩
            · rw [upN_o ei, upN_o ei, upN_o ei, upN_o ei]
              obtain ⟨c1, c2, c3, c4, c5, c6, c7⟩ := Wk.2.2 i (by omega)
              have pq : ¬ (wa i = A 8 ∨ wa i = A 0) := hP [20] (by decide) (by decide) _ (by rw [c3]; decide)
              exact ⟨by rw [a8, if_neg ei]; exact c1, fm.k hF c2, (if_pos (hF.lt c2)).trans c3, by rw [fm.r hF c2 pq]; exact c4, by rw [fm.r hF c2 pq]; exact c5, by rw [fm.i hF c2 pq (by omega)]; exact c6, by rw [fm.i hF c2 pq (by omega)]; exact c7⟩
        have pW1 : WksP np ne (nw + 1) G (upN wp nw p) (upN we nw u) wc (upN wo nw o) := by
          refine ⟨by omega, fun i hi => ?_, pW.2.2.1, fun i h1 h2 => pW.2.2.2 i (by omega) h2⟩
          by_cases ei : i = nw
          · subst ei
            rw [upN_s, upN_s, upN_s]
            refine ⟨hp, hu, OrgP_cg o2 (fun v hv => ?_)⟩
            unfold cpG
            rw [upN_o (by omega), upN_s, upN_o (by omega), upN_s]
          · rw [upN_o ei, upN_o ei, upN_o ei]
            obtain ⟨c1, c2, c3⟩ := pW.2.1 i (by omega)
            refine ⟨c1, c2, OrgP_cg c3 (fun v hv => ?_)⟩
            unfold cpG
            rw [upN_o (by omega), upN_o ei, upN_o (by omega), upN_o ei]
        obtain ⟨X', z1, k, R'⟩ := x_layR (fu := fu) (K := K) (T := T) (V := V) (N := N) (n := n) (by omega) g1 B1 (D.fm B hF fm hro (hP _ (by decide) (by decide))) (P.fm' B hF fm hro (m8 1108 (by omega)) (hP _ (by decide) (by decide))) (E.fm' B hF fm hro (m8 1109 (by omega)) (hP _ (by decide) (by decide))) Wk1 (Wl.fm B hF fm (hP _ (by decide) (by decide))) pP pE pW1 pL
        have z45 : fX12_handIn_L45 S (nI p) (nI u) 0 = some (nI nw, uc (ua (ua (uc S 0 0) 26 nw (nI p)) 27 nw (nI u)) 41 (nI (nw + 1))) := by
          unfold fX12_handIn_L45
          have i26 : ∀ r9, (r9 = 26 ∨ r9 = 27) → inS 0 r9 (nI nw) = true := by
            rintro r9 (z | z) <;> subst z <;> exact inS_ok (by decide) rfl (by show nw < 24; omega) (by decide)
          have s41 : sc (uc S 0 0) 41 = nI nw := sW.1
          rw [s_hold0, bW_some, if_neg n10]
          simp only [sc_ua, s41, nI_clamp (show nw < 2 ^ 31 by omega), i26 26 (Or.inl rfl), i26 27 (Or.inr rfl), if_true, sc_uc, nI_1, nI_pred]
        have sP1 : PrsS np G (uc (ua (ua (uc S 0 0) 26 nw (nI p)) 27 nw (nI u)) 41 (nI (nw + 1))) := sP
        have sE1 : ExsS ne ew eo es (uc (ua (ua (uc S 0 0) 26 nw (nI p)) 27 nw (nI u)) 41 (nI (nw + 1))) := sE
        have sD1 : DrfS K T V N n (uc (ua (ua (uc S 0 0) 26 nw (nI p)) 27 nw (nI u)) 41 (nI (nw + 1))) := sD
        have sL1 : WalS W H (uc (ua (ua (uc S 0 0) 26 nw (nI p)) 27 nw (nI u)) 41 (nI (nw + 1))) := sL
        have s181 : ar (uc (ua (ua (uc S 0 0) 26 nw (nI p)) 27 nw (nI u)) 41 (nI (nw + 1))) 18 0 = 0 := s18
        have st : sc (uc (ua (ua (uc S 0 0) 26 nw (nI p)) 27 nw (nI u)) 41 (nI (nw + 1))) 0 = 0 := rfl
        have sW1 : WksS (nw + 1) (upN wp nw p) (upN we nw u) wc (uc (ua (ua (uc S 0 0) 26 nw (nI p)) 27 nw (nI u)) 41 (nI (nw + 1))) := by
          refine ⟨rfl, fun i hi => ?_, sW.2.2⟩
          by_cases ei : i = nw
          · subst ei
            rw [upN_s, upN_s]
            refine ⟨?_, ?_⟩
            · rw [ar_uc, ar_ua, if_neg (by omega), ar_ua, if_pos ⟨rfl, rfl⟩]
            · rw [ar_uc, ar_ua, if_pos ⟨rfl, rfl⟩]
          · obtain ⟨c1, c2⟩ := sW.2.1 i (by omega)
            rw [upN_o ei, upN_o ei]
            refine ⟨?_, ?_⟩
            · rw [ar_uc, ar_ua, if_neg (by omega), ar_ua, if_neg (fun z => ei z.2), ar_uc]; exact c1
            · rw [ar_uc, ar_ua, if_neg (fun z => ei z.2), ar_ua, if_neg (by omega), ar_uc]; exact c2
        rw [z1, bi_some, z45]
        have hRel : Rel (A 0) X' (uc (ua (ua (uc S 0 0) 26 nw (nI p)) 27 nw (nI u)) 41 (nI (nw + 1))) := ⟨A, fun a => if a < mZ X then ro a else 20, pa, ea, upN wa nw (mZ X), K, T, V, N, n, np, G, ne, ew, eo, es, nw + 1, upN wp nw p, upN we nw u, wc, upN wo nw o, W, H, rfl, R', ⟨sD1, sP1, sE1, sW1, sL1, s181⟩, ⟨pD, pP, pE, pW1, pL⟩⟩
        exact ⟨_, _, _, rfl, rfl, st, rfl, hRel, by rw [k.2.2.2.2.1]; exact fm.1, fun a ha => by rw [k.1]; exact fm.2.1 a ha⟩
    · have er' : r' = 0 := TF_un f2 (Or.inr ⟨rfl, hn⟩)
      rw [ee, bE_l, er', if_pos rfl]
      exact ⟨_, _, _, rfl, rfl, sem_ex (i := 0) (by decide) (by decide) rfl (hR0.sk SK.t)⟩
  · have er : r = 0 := TF_un e2 (Or.inr ⟨rfl, hn⟩)
    rw [e, bE_l, er, if_pos rfl]
    exact ⟨_, _, _, rfl, rfl, sem_ex (i := 0) (by decide) (by decide) rfl (hR0.sk SK.t)⟩
