/-! exercise, handIn -/
theorem PrsX.fm' {P : Nat → Prop} {A ro ro' pa : Nat → Nat} {np : Nat} {G : Nat → Pg} {X X1 : Mem} (h : PrsX A ro pa np G X) (B : BaseX A ro X) (hf : FreshM X) (k : Fm P X X1) (hro : ∀ a, a < mZ X → ro' a = ro a) (hm : mI X1 1108 (A 0) = mI X 1108 (A 0)) (hP : ∀ a, ro a ∈ [6, 50] → ¬ P a) : PrsX A ro' pa np G X1 := by
  refine ⟨hm.trans h.1, fun p hp => ⟨?_, (h.2 p hp).2.fm hf k hro (fun a ha => hP a (by rw [ha]; decide))⟩⟩
  rw [k.ar hf (B.k 6 24 30 (by decide)) (hP _ (by rw [B.o 6 24 30 (by decide)]; decide))]; exact (h.2 p hp).1
theorem ExsX.fm' {P : Nat → Prop} {A ro ro' pa ea : Nat → Nat} {ne : Nat} {ew : Nat → Nat} {eo es : Nat → Int32} {X X1 : Mem} (h : ExsX A ro pa ea ne ew eo es X) (B : BaseX A ro X) (hf : FreshM X) (k : Fm P X X1) (hro : ∀ a, a < mZ X → ro' a = ro a) (hm : mI X1 1109 (A 0) = mI X 1109 (A 0)) (hP : ∀ a, ro a ∈ [7, 21] → ¬ P a) : ExsX A ro' pa ea ne ew eo es X1 := by
  refine ⟨hm.trans h.1, h.2.1, fun e he => ?_⟩
  obtain ⟨a1, a2, a3, a4, a5, a6⟩ := h.2.2 e he
  have p := hP (ea e) (by rw [a3]; decide)
  exact ⟨by rw [k.ar hf (B.k 7 25 6 (by decide)) (hP _ (by rw [B.o 7 25 6 (by decide)]; decide))]; exact a1, k.k hf a2, by rw [hro _ (hf.lt a2)]; exact a3, by rw [k.r hf a2 p]; exact a4, by rw [k.i hf a2 p (by omega)]; exact a5, by rw [k.i hf a2 p (by omega)]; exact a6⟩
theorem WksX.fm' {P : Nat → Prop} {A ro ro' pa ea wa : Nat → Nat} {nw : Nat} {wp we : Nat → Nat} {wc : Nat → Int32} {wo : Nat → Option Nat} {X X1 : Mem} (h : WksX A ro pa ea wa nw wp we wc wo X) (B : BaseX A ro X) (hf : FreshM X) (k : Fm P X X1) (hro : ∀ a, a < mZ X → ro' a = ro a) (hm : mI X1 1110 (A 0) = mI X 1110 (A 0)) (hP : ∀ a, ro a ∈ [8, 20] → ¬ P a) : WksX A ro' pa ea wa nw wp we wc wo X1 := by
  refine ⟨hm.trans h.1, h.2.1, fun w hw => ?_⟩
  obtain ⟨a1, a2, a3, a4, a5, a6, a7⟩ := h.2.2 w hw
  have p := hP (wa w) (by rw [a3]; decide)
  exact ⟨by rw [k.ar hf (B.k 8 26 24 (by decide)) (hP _ (by rw [B.o 8 26 24 (by decide)]; decide))]; exact a1, k.k hf a2, by rw [hro _ (hf.lt a2)]; exact a3, by rw [k.r hf a2 p]; exact a4, by rw [k.r hf a2 p]; exact a5, by rw [k.i hf a2 p (by omega)]; exact a6, by rw [k.i hf a2 p (by omega)]; exact a7⟩
theorem layG_cg {W H : Nat} {G G' : Nat → Pg} {ew ew' : Nat → Nat} {eo eo' es es' : Nat → Int32} {wp wp' we we' : Nat → Nat} {wc wc' : Nat → Int32} {wo wo' : Nat → Option Nat} {nw : Nat} (h : ∀ i, i < nw → wdG G wp i = wdG G' wp' i ∧ hgG G wp i = hgG G' wp' i ∧ (okG G ew eo es wp we wc wo i ↔ okG G' ew' eo' es' wp' we' wc' wo' i)) : layG W H G ew eo es wp we wc wo nw = layG W H G' ew' eo' es' wp' we' wc' wo' nw := congrArg Prod.snd (layB_cg nw h)
theorem OrgP_cg {cp cp' : Nat → Prop} {j w : Nat} {o : Option Nat} (h : OrgP cp j w o) (k : ∀ v, v < w → (cp v ↔ cp' v)) : OrgP cp' j w o := by
  cases o with
  | none => exact fun v h1 h2 q => h v h1 h2 ((k v h2).mpr q)
  | some v => exact ⟨h.1, h.2.1, (k v h.2.1).mp h.2.2.1, fun u a b q => h.2.2.2 u a b ((k u (Nat.lt_trans b h.2.1)).mpr q)⟩
theorem mR_nO {X : Mem} {c k a : Nat} (h : a ≠ mZ X) : mR (nO X c) k a = mR X k a := if_neg h
theorem mI_nO {X : Mem} {c k a : Nat} (h : a ≠ mZ X) : mI (nO X c) k a = mI X k a := if_neg h
theorem mI_nO0 {X : Mem} {c k : Nat} : mI (nO X c) k (mZ X) = 0 := if_pos rfl
theorem mK_nO {X : Mem} {c a : Nat} (h : a ≠ mZ X) : mK (nO X c) a = mK X a := if_neg h
theorem mK_nO0 {X : Mem} {c : Nat} : mK (nO X c) (mZ X) = some (c, 0) := if_pos rfl
theorem mI_wR {X : Mem} {k a j b : Nat} {v : Option Nat} : mI (wR X k a v) j b = mI X j b := (Eq.refl _).trans (Eq.refl _)
theorem mI_sR {X : Mem} {i a j b : Nat} {v : Option Nat} : mI (sR X a i v) j b = mI X j b := (Eq.refl _).trans (Eq.refl _)
theorem mR_sR {X : Mem} {i a j b : Nat} {v : Option Nat} : mR (sR X a i v) j b = mR X j b := (Eq.refl _).trans (Eq.refl _)
theorem mR_wIx {X : Mem} {k a j b : Nat} {v : Int32} : mR (wI X k a v) j b = mR X j b := (Eq.refl _).trans (Eq.refl _)
theorem aR_sR {X : Mem} {i a j b : Nat} {v : Option Nat} : aR (sR X a i v) b j = if b = a ∧ j = i then v else aR X b j := (Eq.refl _).trans (Eq.refl _)
theorem aR_wIx {X : Mem} {k a j b : Nat} {v : Int32} : aR (wI X k a v) b j = aR X b j := (Eq.refl _).trans (Eq.refl _)
theorem t_exercise {fu : Nat} : sem_exercise Rel fu := by
  intro x X S q0 q1 q2 hR hF
  have hR0 := hR
  obtain ⟨A, ro, pa, ea, wa, K, T, V, N, n, np, G, ne, ew, eo, es, nw, wp, we, wc, wo, W, H, rfl, ⟨B, D, P, E, Wk, Wl, Hg⟩, ⟨sD, sP, sE, sW, sL, s18⟩, ⟨pD, pP, pE, pW, pL⟩⟩ := hR
  have hne := pE.1
  have b1 := pP.1
  have hx := B.k 0 11 0 (by decide)
  obtain ⟨r, e1, e2⟩ := s_prog (v := q0) sP.1 b1
  obtain ⟨r', f1, f2⟩ := s_limits (S := S) (u := q1) (v := q2)
  have badr : ∀ v : Int32, ¬ v = 0 → fX12_exercise_L43 S q0 q1 q2 v = some (0, uc S 0 v) := by
    intro v hv
    unfold fX12_exercise_L43
    rw [s_holdN hv, bW_some, if_pos rfl]
  unfold fX11_exercise fX12_exercise
  rw [if_pos hx, e1, bi_some, f1, bi_some, badr 1 (by decide), badr 2 (by decide), badr 3 (by decide)]
  rcases x_prog B P b1 q0 with ⟨p, hp, rfl, e⟩ | ⟨hn, e⟩
  · have er : r = 1 := TF_un e2 (Or.inl ⟨rfl, p, hp, rfl⟩)
    rw [e, bE_r, er, if_neg n10]
    rcases x_limits (X := X) (u := q1) (v := q2) with ⟨hl, hc⟩ | ⟨hl, hc⟩
    · have er' : r' = 1 := TF_un f2 (Or.inl ⟨rfl, hl⟩)
      rw [hc, bE_r, E.1, if_neg (nI_pos (by omega)), B.r 1106 0 7 (by decide), bi_some, alen_of (B.k 7 25 6 (by decide)) (by decide), bi_some, er', if_neg n10, sE.1]
      by_cases h6 : ne = 6
      · rw [if_neg (fun z => by have := (nI_ltI (by omega) (by omega)).mp z; omega), if_pos (by rw [h6]; rfl)]
        exact ⟨_, _, _, rfl, rfl, sem_ex (i := 2) (by decide) (by decide) rfl (hR0.sk SK.t)⟩
      · have h66 : ¬ nI ne = (6 : Int32) := fun z => h6 ((nI_eq (by omega) (by omega : 6 < 2 ^ 31)).mp z)
        have hxl := hF.lt hx
        have h7 := B.k 7 25 6 (by decide)
        have h7l := hF.lt h7
        rw [if_pos ((nI_ltI (by omega) (by omega)).mpr (by omega)), bi_some, bi_some, if_neg h66]
        have i1 : fX3_init (nO X 3) (mZ X) (some (pa p)) q1 q2 = some (wI (wI (wR (nO X 3) 300 (mZ X) (some (pa p))) 301 (mZ X) q1) 302 (mZ X) q2) := if_pos mK_nO0
        rw [i1, bi_some, bi_some]
        have k7 : mK (wI (wI (wR (nO X 3) 300 (mZ X) (some (pa p))) 301 (mZ X) q1) 302 (mZ X) q2) (A 7) = some (25, 6) := (mK_nO (by omega)).trans h7
        have kq : mK (wI (wI (wR (nO X 3) 300 (mZ X) (some (pa p))) 301 (mZ X) q1) 302 (mZ X) q2) (mZ X) = some (3, 0) := mK_nO0
        have kx : mK (sR (wI (wI (wR (nO X 3) 300 (mZ X) (some (pa p))) 301 (mZ X) q1) 302 (mZ X) q2) (A 7) (nI ne).toNatClampNeg (some (mZ X))) (A 0) = some (11, 0) := (mK_nO (by omega)).trans hx
        rw [if_pos (inb_of (t := 5) k7 (by omega : ne < 6) (by omega)), if_pos kq, if_pos kx, nI_clamp (by omega), nI_1]
        -- the class's memory
        have fm0 : Fm (fun b => b = mZ X ∨ b = A 7 ∨ b = A 0) X (wI (sR (wI (wI (wR (nO X 3) 300 (mZ X) (some (pa p))) 301 (mZ X) q1) 302 (mZ X) q2) (A 7) ne (some (mZ X))) 1109 (A 0) (nI (ne + 1))) := ((((Fm.nO.trans (Fm.wR (Or.inl rfl))).trans (Fm.wI (Or.inl (Or.inl rfl)))).trans (Fm.wI (Or.inl (Or.inl rfl)))).trans (Fm.sR (Or.inr (Or.inl rfl)))).trans (Fm.wI (Or.inl (Or.inr (Or.inr rfl))))
        have fm : Fm (fun b => b = A 7 ∨ b = A 0) X (wI (sR (wI (wI (wR (nO X 3) 300 (mZ X) (some (pa p))) 301 (mZ X) q1) 302 (mZ X) q2) (A 7) ne (some (mZ X))) 1109 (A 0) (nI (ne + 1))) := fm0.mono (fun b hb z => z.elim (fun y => by omega) id)
        have rk : RfK X (wI (sR (wI (wI (wR (nO X 3) 300 (mZ X) (some (pa p))) 301 (mZ X) q1) 302 (mZ X) q2) (A 7) ne (some (mZ X))) 1109 (A 0) (nI (ne + 1))) := by
          intro a ha k _ _
          rw [mR_wIx, mR_sR, mR_wIx, mR_wIx, mR_wR, if_neg (by omega), mR_nO (by omega)]
        have m8 : ∀ k, k ≠ 1109 → mI (wI (sR (wI (wI (wR (nO X 3) 300 (mZ X) (some (pa p))) 301 (mZ X) q1) 302 (mZ X) q2) (A 7) ne (some (mZ X))) 1109 (A 0) (nI (ne + 1))) k (A 0) = mI X k (A 0) := by
          intro k hk
          rw [mI_wI, if_neg (by omega), mI_sR, mI_wI, if_neg (by omega), mI_wI, if_neg (by omega), mI_wR, mI_nO (by omega)]
        have n9 : mI (wI (sR (wI (wI (wR (nO X 3) 300 (mZ X) (some (pa p))) 301 (mZ X) q1) 302 (mZ X) q2) (A 7) ne (some (mZ X))) 1109 (A 0) (nI (ne + 1))) 1109 (A 0) = nI (ne + 1) := by rw [mI_wI, if_pos ⟨rfl, rfl⟩]
        have a7 : ∀ j, aR (wI (sR (wI (wI (wR (nO X 3) 300 (mZ X) (some (pa p))) 301 (mZ X) q1) 302 (mZ X) q2) (A 7) ne (some (mZ X))) 1109 (A 0) (nI (ne + 1))) (A 7) j = if j = ne then some (mZ X) else aR X (A 7) j := by
          intro j
          rw [aR_wIx, aR_sR]
          by_cases ej : j = ne
          · rw [if_pos ⟨rfl, ej⟩, if_pos ej]
          · rw [if_neg (fun z => ej z.2), if_neg ej]
            rfl
        have nq : mK (wI (sR (wI (wI (wR (nO X 3) 300 (mZ X) (some (pa p))) 301 (mZ X) q1) 302 (mZ X) q2) (A 7) ne (some (mZ X))) 1109 (A 0) (nI (ne + 1))) (mZ X) = some (3, 0) ∧ mR (wI (sR (wI (wI (wR (nO X 3) 300 (mZ X) (some (pa p))) 301 (mZ X) q1) 302 (mZ X) q2) (A 7) ne (some (mZ X))) 1109 (A 0) (nI (ne + 1))) 300 (mZ X) = some (pa p) ∧ mI (wI (sR (wI (wI (wR (nO X 3) 300 (mZ X) (some (pa p))) 301 (mZ X) q1) 302 (mZ X) q2) (A 7) ne (some (mZ X))) 1109 (A 0) (nI (ne + 1))) 301 (mZ X) = q1 ∧ mI (wI (sR (wI (wI (wR (nO X 3) 300 (mZ X) (some (pa p))) 301 (mZ X) q1) 302 (mZ X) q2) (A 7) ne (some (mZ X))) 1109 (A 0) (nI (ne + 1))) 302 (mZ X) = q2 := by
          refine ⟨mK_nO0, ?_, ?_, ?_⟩
          · rw [mR_wIx, mR_sR, mR_wIx, mR_wIx, mR_wR, if_pos ⟨rfl, rfl⟩]
          · rw [mI_wI, if_neg (by omega), mI_sR, mI_wI, if_neg (by omega), mI_wI, if_pos ⟨rfl, rfl⟩]
          · rw [mI_wI, if_neg (by omega), mI_sR, mI_wI, if_pos ⟨rfl, rfl⟩]
        have k9 : Keeps9 X (wI (sR (wI (wI (wR (nO X 3) 300 (mZ X) (some (pa p))) 301 (mZ X) q1) 302 (mZ X) q2) (A 7) ne (some (mZ X))) 1109 (A 0) (nI (ne + 1))) := ⟨fm.1, fm.2.1⟩
        generalize wI (sR (wI (wI (wR (nO X 3) 300 (mZ X) (some (pa p))) 301 (mZ X) q1) 302 (mZ X) q2) (A 7) ne (some (mZ X))) 1109 (A 0) (nI (ne + 1)) = X1 at fm rk m8 n9 a7 nq k9 ⊢
        have hP : ∀ (L : List Nat), 7 ∉ L → 0 ∉ L → ∀ a, ro a ∈ L → ¬ (a = A 7 ∨ a = A 0) := by
          rintro L h1 h2 a ha (z | z)
          · rw [z, B.o 7 25 6 (by decide)] at ha; exact h1 ha
          · rw [z, B.o 0 11 0 (by decide)] at ha; exact h2 ha
        have hro : ∀ a, a < mZ X → (fun a => if a < mZ X then ro a else 21) a = ro a := fun a ha => if_pos ha
        have B1 : BaseX A (fun a => if a < mZ X then ro a else 21) X1 := B.fm hF fm rk hro (B.2.2.fm hF (B.k 4 0 0 (by decide)) fm hro (hP [4] (by decide) (by decide) _ (by rw [B.o 4 0 0 (by decide)]; decide)))
        have E1 : ExsX A (fun a => if a < mZ X then ro a else 21) pa (upN ea ne (mZ X)) (ne + 1) (upN ew ne p) (upN eo ne q1) (upN es ne q2) X1 := by
          refine ⟨n9, fun i j hi hj hij => ?_, fun i hi => ?_⟩
          · by_cases ei : i = ne
            · by_cases ej : j = ne
              · omega
              · rw [ei, upN_s, upN_o ej] at hij
                have := hF.lt (E.2.2 j (by omega)).2.1
                omega
            · by_cases ej : j = ne
              · rw [ej, upN_s, upN_o ei] at hij
                have := hF.lt (E.2.2 i (by omega)).2.1
                omega
              · rw [upN_o ei, upN_o ej] at hij
                exact E.2.1 i j (by omega) (by omega) hij
          · by_cases ei : i = ne
            · subst ei
              rw [upN_s, upN_s, upN_s, upN_s]
              exact ⟨by rw [a7, if_pos rfl], nq.1, if_neg (Nat.lt_irrefl _), nq.2.1, nq.2.2.1, nq.2.2.2⟩
            · rw [upN_o ei, upN_o ei, upN_o ei, upN_o ei]
              obtain ⟨c1, c2, c3, c4, c5, c6⟩ := E.2.2 i (by omega)
              have pq : ¬ (ea i = A 7 ∨ ea i = A 0) := hP [21] (by decide) (by decide) _ (by rw [c3]; decide)
              exact ⟨by rw [a7, if_neg ei]; exact c1, fm.k hF c2, (if_pos (hF.lt c2)).trans c3, by rw [fm.r hF c2 pq]; exact c4, by rw [fm.i hF c2 pq (by omega)]; exact c5, by rw [fm.i hF c2 pq (by omega)]; exact c6⟩
        have eL : layG W H G (upN ew ne p) (upN eo ne q1) (upN es ne q2) wp we wc wo nw = layG W H G ew eo es wp we wc wo nw := layG_cg (fun i hi => by
          have hi2 := (pW.2.1 i hi).2.1
          refine ⟨rfl, rfl, ?_⟩
          unfold okG MtG
          rw [upN_o (by omega), upN_o (by omega), upN_o (by omega)])
        have Hg1 : HngX W wa nw (layG W H G (upN ew ne p) (upN eo ne q1) (upN es ne q2) wp we wc wo nw) X1 := by
          rw [eL]
          exact Hg.fm Wk hF fm (hP _ (by decide) (by decide))
        have pE1 : ExsP np (ne + 1) (upN ew ne p) := ⟨by omega, fun i hi => by
          by_cases ei : i = ne
          · rw [ei, upN_s]; exact hp
          · rw [upN_o ei]; exact pE.2 i (by omega)⟩
        have pW1 : WksP np (ne + 1) nw G wp we wc wo := ⟨pW.1, fun i hi => ⟨(pW.2.1 i hi).1, Nat.lt_succ_of_lt (pW.2.1 i hi).2.1, (pW.2.1 i hi).2.2⟩, pW.2.2.1, pW.2.2.2⟩
        -- the reference
        have z43 : fX12_exercise_L43 S (nI p) q1 q2 0 = some (nI ne, uc (ua (ua (ua (uc S 0 0) 23 ne (nI p)) 24 ne q1) 25 ne q2) 37 (nI (ne + 1))) := by
          unfold fX12_exercise_L43
          have i23 : ∀ r9, (r9 = 23 ∨ r9 = 24 ∨ r9 = 25) → inS 0 r9 (nI ne) = true := by
            rintro r9 (z | z | z) <;> subst z <;> exact inS_ok (by decide) rfl (by show ne < 6; omega) (by decide)
          have s37 : sc (uc S 0 0) 37 = nI ne := sE.1
          rw [s_hold0, bW_some, if_neg n10]
          simp only [sc_ua, s37, nI_clamp (show ne < 2 ^ 31 by omega), i23 23 (Or.inl rfl), i23 24 (Or.inr (Or.inl rfl)), i23 25 (Or.inr (Or.inr rfl)), if_true, sc_uc, nI_1, nI_pred]
        have sP1 : PrsS np G (uc (ua (ua (ua (uc S 0 0) 23 ne (nI p)) 24 ne q1) 25 ne q2) 37 (nI (ne + 1))) := sP
        have sW1 : WksS nw wp we wc (uc (ua (ua (ua (uc S 0 0) 23 ne (nI p)) 24 ne q1) 25 ne q2) 37 (nI (ne + 1))) := sW
        have sD1 : DrfS K T V N n (uc (ua (ua (ua (uc S 0 0) 23 ne (nI p)) 24 ne q1) 25 ne q2) 37 (nI (ne + 1))) := sD
        have sL1 : WalS W H (uc (ua (ua (ua (uc S 0 0) 23 ne (nI p)) 24 ne q1) 25 ne q2) 37 (nI (ne + 1))) := sL
        have s181 : ar (uc (ua (ua (ua (uc S 0 0) 23 ne (nI p)) 24 ne q1) 25 ne q2) 37 (nI (ne + 1))) 18 0 = 0 := s18
        have st : sc (uc (ua (ua (ua (uc S 0 0) 23 ne (nI p)) 24 ne q1) 25 ne q2) 37 (nI (ne + 1))) 0 = 0 := rfl
        have sE1 : ExsS (ne + 1) (upN ew ne p) (upN eo ne q1) (upN es ne q2) (uc (ua (ua (ua (uc S 0 0) 23 ne (nI p)) 24 ne q1) 25 ne q2) 37 (nI (ne + 1))) := by
          refine ⟨rfl, fun i hi => ?_⟩
          by_cases ei : i = ne
          · subst ei
            rw [upN_s, upN_s, upN_s]
            refine ⟨?_, ?_, ?_⟩
            · rw [ar_uc, ar_ua, if_neg (by omega), ar_ua, if_neg (by omega), ar_ua, if_pos ⟨rfl, rfl⟩]
            · rw [ar_uc, ar_ua, if_neg (by omega), ar_ua, if_pos ⟨rfl, rfl⟩]
            · rw [ar_uc, ar_ua, if_pos ⟨rfl, rfl⟩]
          · obtain ⟨b1, b2, b3⟩ := sE.2 i (by omega)
            rw [upN_o ei, upN_o ei, upN_o ei]
            refine ⟨?_, ?_, ?_⟩
            · rw [ar_uc, ar_ua, if_neg (by omega), ar_ua, if_neg (by omega), ar_ua, if_neg (fun z => ei z.2), ar_uc]; exact b1
            · rw [ar_uc, ar_ua, if_neg (by omega), ar_ua, if_neg (fun z => ei z.2), ar_ua, if_neg (by omega), ar_uc]; exact b2
            · rw [ar_uc, ar_ua, if_neg (fun z => ei z.2), ar_ua, if_neg (by omega), ar_ua, if_neg (by omega), ar_uc]; exact b3
        rw [z43]
        have hRel : Rel (A 0) X1 (uc (ua (ua (ua (uc S 0 0) 23 ne (nI p)) 24 ne q1) 25 ne q2) 37 (nI (ne + 1))) := ⟨A, fun a => if a < mZ X then ro a else 21, pa, upN ea ne (mZ X), wa, K, T, V, N, n, np, G, ne + 1, upN ew ne p, upN eo ne q1, upN es ne q2, nw, wp, we, wc, wo, W, H, rfl, ⟨B1, D.fm B hF fm hro (hP _ (by decide) (by decide)), P.fm' B hF fm hro (m8 1108 (by omega)) (hP _ (by decide) (by decide)), E1, by
            have w1 := Wk.fm' B hF fm hro (m8 1110 (by omega)) (hP _ (by decide) (by decide))
            refine ⟨w1.1, w1.2.1, fun i hi => ?_⟩
            rw [upN_o (by have := (pW.2.1 i hi).2.1; omega)]
            exact w1.2.2 i hi, Wl.fm B hF fm (hP _ (by decide) (by decide)), Hg1⟩, ⟨sD1, sP1, sE1, sW1, sL1, s181⟩, ⟨pD, pP, pE1, pW1, pL⟩⟩
        exact ⟨_, _, _, rfl, rfl, st, rfl, hRel, k9⟩
    · have er' : r' = 0 := TF_un f2 (Or.inr ⟨rfl, hl⟩)
      rw [hc, bE_l, er', if_pos rfl]
      exact ⟨_, _, _, rfl, rfl, sem_ex (i := 1) (by decide) (by decide) rfl (hR0.sk SK.t)⟩
  · have er : r = 0 := TF_un e2 (Or.inr ⟨rfl, hn⟩)
    rw [e, bE_l, er, if_pos rfl]
    exact ⟨_, _, _, rfl, rfl, sem_ex (i := 0) (by decide) (by decide) rfl (hR0.sk SK.t)⟩
