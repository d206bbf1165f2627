/-! exercises and works are made -/
theorem PrsX.fm' {P : Nat → Prop} {A ro ro' pa : Nat → Nat} {np : Nat} {G : Nat → Pg} {X X1 : Mem} (h : PrsX A ro pa np G X) (B : BaseX A ro X) (hf : FreshM X) (k : Fm P X X1) (hro : ∀ a, a < mZ X → ro' a = ro a) (hm : mI X1 1108 (A 0) = mI X 1108 (A 0)) (hP : ∀ a, ro a ∈ [6, 50] → ¬ P a) : PrsX A ro' pa np G X1 := by
  refine ⟨hm.trans h.1, fun p hp => ⟨?_, (h.2 p hp).2.fm hf k hro (fun a ha => hP a (by rw [ha]; decide))⟩⟩
  rw [k.ar hf (B.k 6 24 30 (by decide)) (hP _ (by rw [B.o 6 24 30 (by decide)]; decide))]; exact (h.2 p hp).1
theorem ExsX.fm' {P : Nat → Prop} {A ro ro' pa ea : Nat → Nat} {ne : Nat} {ew : Nat → Nat} {eo es : Nat → Int32} {X X1 : Mem} (h : ExsX A ro pa ea ne ew eo es X) (B : BaseX A ro X) (hf : FreshM X) (k : Fm P X X1) (hro : ∀ a, a < mZ X → ro' a = ro a) (hm : mI X1 1109 (A 0) = mI X 1109 (A 0)) (hP : ∀ a, ro a ∈ [7, 21] → ¬ P a) : ExsX A ro' pa ea ne ew eo es X1 := by
  refine ⟨hm.trans h.1, h.2.1, fun e he => ?_⟩
  obtain ⟨a1, a2, a3, a4, a5, a6⟩ := h.2.2 e he
  have p := hP (ea e) (by rw [a3]; decide)
  exact ⟨by rw [k.ar hf (B.k 7 25 6 (by decide)) (hP _ (by rw [B.o 7 25 6 (by decide)]; decide))]; exact a1, k.k hf a2, by rw [hro _ (hf.lt a2)]; exact a3, by rw [k.r hf a2 p]; exact a4, by rw [k.i hf a2 p (by omega)]; exact a5, by rw [k.i hf a2 p (by omega)]; exact a6⟩
theorem WksX.fm' {P : Nat → Prop} {A ro ro' pa ea wa : Nat → Nat} {nw : Nat} {wp we : Nat → Nat} {wc : Nat → Int32} {wo : Nat → Option Nat} {X X1 : Mem} (h : WksX A ro pa ea wa nw wp we wc wo X) (B : BaseX A ro X) (hf : FreshM X) (k : Fm P X X1) (hro : ∀ a, a < mZ X → ro' a = ro a) (hm : mI X1 1110 (A 0) = mI X 1110 (A 0)) (hP : ∀ a, ro a ∈ [8, 20] → ¬ P a) : WksX A ro' pa ea wa nw wp we wc wo X1 := by
  refine ⟨hm.trans h.1, h.2.1, fun w hw => ?_⟩
  obtain ⟨a1, a2, a3, a4, a5, a6, a7⟩ := h.2.2 w hw
  have p := hP (wa w) (by rw [a3]; decide)
  exact ⟨by rw [k.ar hf (B.k 8 26 24 (by decide)) (hP _ (by rw [B.o 8 26 24 (by decide)]; decide))]; exact a1, k.k hf a2, by rw [hro _ (hf.lt a2)]; exact a3, by rw [k.r hf a2 p]; exact a4, by rw [k.r hf a2 p]; exact a5, by rw [k.i hf a2 p (by omega)]; exact a6, by rw [k.i hf a2 p (by omega)]; exact a7⟩
theorem layG_cg {W H : Nat} {G G' : Nat → Pg} {ew ew' : Nat → Nat} {eo eo' es es' : Nat → Int32} {wp wp' we we' : Nat → Nat} {wc wc' : Nat → Int32} {wo wo' : Nat → Option Nat} {nw : Nat} (h : ∀ i, i < nw → wdG G wp i = wdG G' wp' i ∧ hgG G wp i = hgG G' wp' i ∧ (okG G ew eo es wp we wc wo i ↔ okG G' ew' eo' es' wp' we' wc' wo' i)) : layG W H G ew eo es wp we wc wo nw = layG W H G' ew' eo' es' wp' we' wc' wo' nw := congrArg Prod.snd (layB_cg nw h)
theorem OrgP_cg {cp cp' : Nat → Prop} {j w : Nat} {o : Option Nat} (h : OrgP cp j w o) (k : ∀ v, v < w → (cp v ↔ cp' v)) : OrgP cp' j w o := by
  cases o with
  | none => exact fun v h1 h2 q => h v h1 h2 ((k v h2).mpr q)
  | some v => exact ⟨h.1, h.2.1, (k v h.2.1).mp h.2.2.1, fun u a b q => h.2.2.2 u a b ((k u (Nat.lt_trans b h.2.1)).mpr q)⟩
theorem mR_nO {X : Mem} {c k a : Nat} (h : a ≠ mZ X) : mR (nO X c) k a = mR X k a := if_neg h
theorem mI_nO {X : Mem} {c k a : Nat} (h : a ≠ mZ X) : mI (nO X c) k a = mI X k a := if_neg h
theorem mI_nO0 {X : Mem} {c k : Nat} : mI (nO X c) k (mZ X) = 0 := if_pos rfl
theorem mK_nO {X : Mem} {c a : Nat} (h : a ≠ mZ X) : mK (nO X c) a = mK X a := if_neg h
theorem mK_nO0 {X : Mem} {c : Nat} : mK (nO X c) (mZ X) = some (c, 0) := if_pos rfl
theorem mI_wR {X : Mem} {k a j b : Nat} {v : Option Nat} : mI (wR X k a v) j b = mI X j b := (Eq.refl _).trans (Eq.refl _)
theorem mI_sR {X : Mem} {i a j b : Nat} {v : Option Nat} : mI (sR X a i v) j b = mI X j b := (Eq.refl _).trans (Eq.refl _)
theorem mR_sR {X : Mem} {i a j b : Nat} {v : Option Nat} : mR (sR X a i v) j b = mR X j b := (Eq.refl _).trans (Eq.refl _)
theorem mR_wIx {X : Mem} {k a j b : Nat} {v : Int32} : mR (wI X k a v) j b = mR X j b := (Eq.refl _).trans (Eq.refl _)
theorem aR_sR {X : Mem} {i a j b : Nat} {v : Option Nat} : aR (sR X a i v) b j = if b = a ∧ j = i then v else aR X b j := (Eq.refl _).trans (Eq.refl _)
theorem aR_wIx {X : Mem} {k a j b : Nat} {v : Int32} : aR (wI X k a v) b j = aR X b j := (Eq.refl _).trans (Eq.refl _)
section MW
variable {fu : Nat} {A ro pa ea wa : Nat → Nat} {K T V N : Nat → Int32} {n np : Nat} {G : Nat → Pg} {ne : Nat} {ew : Nat → Nat} {eo es : Nat → Int32} {nw : Nat} {wp we : Nat → Nat} {wc : Nat → Int32} {wo : Nat → Option Nat} {W H : Nat} {X : Mem} {S : SM}
theorem x_orig {p e : Nat} (hfu : 200 ≤ fu) (hp : p < np) (he : e < ne) (B : BaseX A ro X) (P : PrsX A ro pa np G X) (E : ExsX A ro pa ea ne ew eo es X) (Wk : WksX A ro pa ea wa nw wp we wc wo X) (pP : PrsP np G) (pW : WksP np ne nw G wp we wc wo) : ∃ o, fX11_findOriginal fu X (A 0) (some (pa p)) (some (ea e)) = some (oW o) ∧ OrgP (fun v => we v = e ∧ pgu (G (wp v)) ≠ pgu (G p) ∧ FoG (G (wp v)) (G p)) 0 nw o := by
  have hnw := pW.1
  have h0 := B.k 0 11 0 (by decide)
  have key : ∀ (t i m : Nat), i + t = nw → (∀ v, v < i → ¬ (we v = e ∧ pgu (G (wp v)) ≠ pgu (G p) ∧ FoG (G (wp v)) (G p))) → ∃ o, fX11_findOriginal_L2 fu X (m + t + 1) (A 0) (some (pa p)) (some (ea e)) (nI i) = some (oW o) ∧ OrgP (fun v => we v = e ∧ pgu (G (wp v)) ≠ pgu (G p) ∧ FoG (G (wp v)) (G p)) 0 nw o := by
    intro t
    induction t with
    | zero =>
      intro i m hi hn
      have hi : i = nw := hi
      subst hi
      refine ⟨none, ?_, fun v _ hv => hn v hv⟩
      show fX11_findOriginal_L2b fu X (fX11_findOriginal_L2 fu X m) (A 0) (some (pa p)) (some (ea e)) (nI i) = _
      unfold fX11_findOriginal_L2b
      rw [if_pos h0, Wk.1, if_pos (Int32.le_refl _)]
      rfl
    | succ t ih =>
      intro i m hi hn
      obtain ⟨w1, w2, w3, w4, w5, -⟩ := Wk.2.2 i (by omega)
      obtain ⟨q1, q2, -⟩ := pW.2.1 i (by omega)
      obtain ⟨r, c1, c2⟩ := x_form (fu := fu) (by omega) (P.2 (wp i) q1).2 (P.2 p hp).2 (pP.2 _ q1) (pP.2 p hp)
      obtain ⟨os, pa9, wa9, fo, dr, ra, ua, oa, h1, h2, -⟩ := (P.2 (wp i) q1).2
      obtain ⟨os', pa9', wa9', fo', dr', ra', ua', oa', i1, i2, -⟩ := (P.2 p hp).2
      have nx : ¬ (we i = e ∧ pgu (G (wp i)) ≠ pgu (G p) ∧ FoG (G (wp i)) (G p)) → ∃ o, fX11_findOriginal_L2 fu X (m + t + 1) (A 0) (some (pa p)) (some (ea e)) (nI (i + 1)) = some (oW o) ∧ OrgP (fun v => we v = e ∧ pgu (G (wp v)) ≠ pgu (G p) ∧ FoG (G (wp v)) (G p)) 0 nw o := fun hno => ih (i + 1) m (by omega) (fun v hv => by
        by_cases ev : v = i
        · rw [ev]; exact hno
        · exact hn v (by omega))
      show ∃ o, fX11_findOriginal_L2b fu X (fX11_findOriginal_L2 fu X (m + t + 1)) (A 0) (some (pa p)) (some (ea e)) (nI i) = some (oW o) ∧ _
      unfold fX11_findOriginal_L2b fX11_findOriginal_L70
      rw [if_pos h0, Wk.1, if_neg (fun q => by have := (nI_leI (by omega) (by omega)).mp q; omega), B.r 1107 0 8 (by decide), bi_some, alen_of (B.k 8 26 24 (by decide)) (by decide), bi_some, if_neg (fun q => by have := (nI_leI (by omega) (by omega)).mp q; omega), bi_some, if_pos (inb_of (t := 6) (B.k 8 26 24 (by decide)) (by omega : i < 24) (by omega)), nI_clamp (by omega), w1, if_neg (by exact fun q => nomatch q), bi_some, if_pos w2, w5, w4, nI_1]
      by_cases e9 : we i = e
      · rw [if_pos (by rw [e9]), bi_some, if_pos h1.1.1, bi_some, if_pos i1.1.1, h2, i2]
        by_cases eu : pgu (G (wp i)) = pgu (G p)
        · rw [if_pos eu]
          exact nx (fun z => z.2.1 eu)
        · rw [if_neg eu, bi_some, if_pos h1.1.1, c1, bi_some]
          rcases c2 with ⟨rfl, c2⟩ | ⟨rfl, c2⟩
          · rw [if_neg n10]
            exact ⟨some i, rfl, Nat.zero_le i, by omega, ⟨e9, eu, c2⟩, fun u _ hu => hn u hu⟩
          · rw [if_pos rfl]
            exact nx (fun z => c2 z.2.2)
      · rw [if_neg (fun z => e9 (E.2.1 _ _ q2 he (Option.some.inj z)))]
        exact nx (fun z => e9 z.1)
  have k := key nw 0 (fu - nw - 1) (by omega) (fun v hv => absurd hv (Nat.not_lt_zero v))
  rw [show fu - nw - 1 + nw + 1 = fu by omega] at k
  exact k
end MW
section MN
variable {fu x : Nat} {K T V N : Nat → Int32} {n np : Nat} {G : Nat → Pg} {ne : Nat} {ew : Nat → Nat} {eo es : Nat → Int32} {nw : Nat} {wp we : Nat → Nat} {wc : Nat → Int32} {wo : Nat → Option Nat} {W H : Nat} {X : Mem}
theorem m_exercise {p : Nat} {q1 q2 : Int32} (h : StX x K T V N n np G ne ew eo es nw wp we wc wo W H X) (hP : RelP K T V N n np G ne ew nw wp we wc wo W H) (hp : p < np) (hl : (1 ≤ q1 ∧ q1 ≤ 30) ∧ (0 ≤ q2 ∧ q2 ≤ 600)) (h6 : ne < 6) : ∃ X1, fX11_exercise X x (nI p) q1 q2 = some (.inr (nI ne, X1)) ∧ StX x K T V N n np G (ne + 1) (upN ew ne p) (upN eo ne q1) (upN es ne q2) nw wp we wc wo W H X1 ∧ RelP K T V N n np G (ne + 1) (upN ew ne p) nw wp we wc wo W H ∧ Keeps9 X X1 := by
  obtain ⟨hF, A, ro, pa, ea, wa, rfl, B, D, P, E, Wk, Wl, Hg⟩ := h
  obtain ⟨pD, pP, pE, pW, pL⟩ := hP
  have b1 := pP.1
  have hne := pE.1
  have hnw := pW.1
  have hx := B.k 0 11 0 (by decide)
  have hc : fX11_checkAllowance X q1 q2 = some (.inr ()) := (x_limits (X := X) (u := q1) (v := q2)).elim (fun z => z.2) (fun z => absurd hl z.1)
  unfold fX11_exercise
  rw [if_pos hx, x_progI B P b1 hp, bE_r, hc, bE_r, E.1, if_neg (nI_pos (by omega)), B.r 1106 0 7 (by decide), bi_some, alen_of (B.k 7 25 6 (by decide)) (by decide), bi_some]
  have hxl := hF.lt hx
  have h7 := B.k 7 25 6 (by decide)
  have h7l := hF.lt h7
  rw [if_pos ((nI_ltI (by omega) (by omega)).mpr (by omega)), bi_some, bi_some]
  have i1 : fX3_init (nO X 3) (mZ X) (some (pa p)) q1 q2 = some (wI (wI (wR (nO X 3) 300 (mZ X) (some (pa p))) 301 (mZ X) q1) 302 (mZ X) q2) := if_pos mK_nO0
  rw [i1, bi_some, bi_some]
  have k7 : mK (wI (wI (wR (nO X 3) 300 (mZ X) (some (pa p))) 301 (mZ X) q1) 302 (mZ X) q2) (A 7) = some (25, 6) := (mK_nO (by omega)).trans h7
  have kq : mK (wI (wI (wR (nO X 3) 300 (mZ X) (some (pa p))) 301 (mZ X) q1) 302 (mZ X) q2) (mZ X) = some (3, 0) := mK_nO0
  have kx : mK (sR (wI (wI (wR (nO X 3) 300 (mZ X) (some (pa p))) 301 (mZ X) q1) 302 (mZ X) q2) (A 7) (nI ne).toNatClampNeg (some (mZ X))) (A 0) = some (11, 0) := (mK_nO (by omega)).trans hx
  rw [if_pos (inb_of (t := 5) k7 (by omega : ne < 6) (by omega)), if_pos kq, if_pos kx, nI_clamp (by omega), nI_1]
  -- the class's memory
  have fm0 : Fm (fun b => b = mZ X ∨ b = A 7 ∨ b = A 0) X (wI (sR (wI (wI (wR (nO X 3) 300 (mZ X) (some (pa p))) 301 (mZ X) q1) 302 (mZ X) q2) (A 7) ne (some (mZ X))) 1109 (A 0) (nI (ne + 1))) := ((((Fm.nO.trans (Fm.wR (Or.inl rfl))).trans (Fm.wI (Or.inl (Or.inl rfl)))).trans (Fm.wI (Or.inl (Or.inl rfl)))).trans (Fm.sR (Or.inr (Or.inl rfl)))).trans (Fm.wI (Or.inl (Or.inr (Or.inr rfl))))
  have fm : Fm (fun b => b = A 7 ∨ b = A 0) X (wI (sR (wI (wI (wR (nO X 3) 300 (mZ X) (some (pa p))) 301 (mZ X) q1) 302 (mZ X) q2) (A 7) ne (some (mZ X))) 1109 (A 0) (nI (ne + 1))) := fm0.mono (fun b hb z => z.elim (fun y => by omega) id)
  have rk : RfK X (wI (sR (wI (wI (wR (nO X 3) 300 (mZ X) (some (pa p))) 301 (mZ X) q1) 302 (mZ X) q2) (A 7) ne (some (mZ X))) 1109 (A 0) (nI (ne + 1))) := by
    intro a ha k _ _
    rw [mR_wIx, mR_sR, mR_wIx, mR_wIx, mR_wR, if_neg (by omega), mR_nO (by omega)]
  have m8 : ∀ k, k ≠ 1109 → mI (wI (sR (wI (wI (wR (nO X 3) 300 (mZ X) (some (pa p))) 301 (mZ X) q1) 302 (mZ X) q2) (A 7) ne (some (mZ X))) 1109 (A 0) (nI (ne + 1))) k (A 0) = mI X k (A 0) := by
    intro k hk
    rw [mI_wI, if_neg (by omega), mI_sR, mI_wI, if_neg (by omega), mI_wI, if_neg (by omega), mI_wR, mI_nO (by omega)]
  have n9 : mI (wI (sR (wI (wI (wR (nO X 3) 300 (mZ X) (some (pa p))) 301 (mZ X) q1) 302 (mZ X) q2) (A 7) ne (some (mZ X))) 1109 (A 0) (nI (ne + 1))) 1109 (A 0) = nI (ne + 1) := by rw [mI_wI, if_pos ⟨rfl, rfl⟩]
  have a7 : ∀ j, aR (wI (sR (wI (wI (wR (nO X 3) 300 (mZ X) (some (pa p))) 301 (mZ X) q1) 302 (mZ X) q2) (A 7) ne (some (mZ X))) 1109 (A 0) (nI (ne + 1))) (A 7) j = if j = ne then some (mZ X) else aR X (A 7) j := by
    intro j
    rw [aR_wIx, aR_sR]
    by_cases ej : j = ne
    · rw [if_pos ⟨rfl, ej⟩, if_pos ej]
    · rw [if_neg (fun z => ej z.2), if_neg ej]
      rfl
  have nq : mK (wI (sR (wI (wI (wR (nO X 3) 300 (mZ X) (some (pa p))) 301 (mZ X) q1) 302 (mZ X) q2) (A 7) ne (some (mZ X))) 1109 (A 0) (nI (ne + 1))) (mZ X) = some (3, 0) ∧ mR (wI (sR (wI (wI (wR (nO X 3) 300 (mZ X) (some (pa p))) 301 (mZ X) q1) 302 (mZ X) q2) (A 7) ne (some (mZ X))) 1109 (A 0) (nI (ne + 1))) 300 (mZ X) = some (pa p) ∧ mI (wI (sR (wI (wI (wR (nO X 3) 300 (mZ X) (some (pa p))) 301 (mZ X) q1) 302 (mZ X) q2) (A 7) ne (some (mZ X))) 1109 (A 0) (nI (ne + 1))) 301 (mZ X) = q1 ∧ mI (wI (sR (wI (wI (wR (nO X 3) 300 (mZ X) (some (pa p))) 301 (mZ X) q1) 302 (mZ X) q2) (A 7) ne (some (mZ X))) 1109 (A 0) (nI (ne + 1))) 302 (mZ X) = q2 := by
    refine ⟨mK_nO0, ?_, ?_, ?_⟩
    · rw [mR_wIx, mR_sR, mR_wIx, mR_wIx, mR_wR, if_pos ⟨rfl, rfl⟩]
    · rw [mI_wI, if_neg (by omega), mI_sR, mI_wI, if_neg (by omega), mI_wI, if_pos ⟨rfl, rfl⟩]
    · rw [mI_wI, if_neg (by omega), mI_sR, mI_wI, if_pos ⟨rfl, rfl⟩]
  have k9 : Keeps9 X (wI (sR (wI (wI (wR (nO X 3) 300 (mZ X) (some (pa p))) 301 (mZ X) q1) 302 (mZ X) q2) (A 7) ne (some (mZ X))) 1109 (A 0) (nI (ne + 1))) := ⟨fm.1, fm.2.1⟩
  have g9 : FreshM (wI (sR (wI (wI (wR (nO X 3) 300 (mZ X) (some (pa p))) 301 (mZ X) q1) 302 (mZ X) q2) (A 7) ne (some (mZ X))) 1109 (A 0) (nI (ne + 1))) := (hF.nO (c := 3)).cg rfl rfl
  generalize wI (sR (wI (wI (wR (nO X 3) 300 (mZ X) (some (pa p))) 301 (mZ X) q1) 302 (mZ X) q2) (A 7) ne (some (mZ X))) 1109 (A 0) (nI (ne + 1)) = X1 at g9 fm rk m8 n9 a7 nq k9 ⊢
  have hP : ∀ (L : List Nat), 7 ∉ L → 0 ∉ L → ∀ a, ro a ∈ L → ¬ (a = A 7 ∨ a = A 0) := by
    rintro L h1 h2 a ha (z | z)
    · rw [z, B.o 7 25 6 (by decide)] at ha; exact h1 ha
    · rw [z, B.o 0 11 0 (by decide)] at ha; exact h2 ha
  have hro : ∀ a, a < mZ X → (fun a => if a < mZ X then ro a else 21) a = ro a := fun a ha => if_pos ha
  have B1 : BaseX A (fun a => if a < mZ X then ro a else 21) X1 := B.fm hF fm rk hro (B.2.2.fm hF (B.k 4 0 0 (by decide)) fm hro (hP [4] (by decide) (by decide) _ (by rw [B.o 4 0 0 (by decide)]; decide)))
  have E1 : ExsX A (fun a => if a < mZ X then ro a else 21) pa (upN ea ne (mZ X)) (ne + 1) (upN ew ne p) (upN eo ne q1) (upN es ne q2) X1 := by
    refine ⟨n9, fun i j hi hj hij => ?_, fun i hi => ?_⟩
    · by_cases ei : i = ne
      · by_cases ej : j = ne
        · omega
        · rw [ei, upN_s, upN_o ej] at hij
          have := hF.lt (E.2.2 j (by omega)).2.1
          omega
      · by_cases ej : j = ne
        · rw [ej, upN_s, upN_o ei] at hij
          have := hF.lt (E.2.2 i (by omega)).2.1
          omega
        · rw [upN_o ei, upN_o ej] at hij
          exact E.2.1 i j (by omega) (by omega) hij
    · by_cases ei : i = ne
      · subst ei
        rw [upN_s, upN_s, upN_s, upN_s]
        exact ⟨by rw [a7, if_pos rfl], nq.1, if_neg (Nat.lt_irrefl _), nq.2.1, nq.2.2.1, nq.2.2.2⟩
      · rw [upN_o ei, upN_o ei, upN_o ei, upN_o ei]
        obtain ⟨c1, c2, c3, c4, c5, c6⟩ := E.2.2 i (by omega)
        have pq : ¬ (ea i = A 7 ∨ ea i = A 0) := hP [21] (by decide) (by decide) _ (by rw [c3]; decide)
        exact ⟨by rw [a7, if_neg ei]; exact c1, fm.k hF c2, (if_pos (hF.lt c2)).trans c3, by rw [fm.r hF c2 pq]; exact c4, by rw [fm.i hF c2 pq (by omega)]; exact c5, by rw [fm.i hF c2 pq (by omega)]; exact c6⟩
  have eL : layG W H G (upN ew ne p) (upN eo ne q1) (upN es ne q2) wp we wc wo nw = layG W H G ew eo es wp we wc wo nw := layG_cg (fun i hi => by
    have hi2 := (pW.2.1 i hi).2.1
    refine ⟨rfl, rfl, ?_⟩
    unfold okG MtG
    rw [upN_o (by omega), upN_o (by omega), upN_o (by omega)])
  have Hg1 : HngX W wa nw (layG W H G (upN ew ne p) (upN eo ne q1) (upN es ne q2) wp we wc wo nw) X1 := by
    rw [eL]
    exact Hg.fm Wk hF fm (hP _ (by decide) (by decide))
  have pE1 : ExsP np (ne + 1) (upN ew ne p) := ⟨by omega, fun i hi => by
    by_cases ei : i = ne
    · rw [ei, upN_s]; exact hp
    · rw [upN_o ei]; exact pE.2 i (by omega)⟩
  have pW1 : WksP np (ne + 1) nw G wp we wc wo := ⟨pW.1, fun i hi => ⟨(pW.2.1 i hi).1, Nat.lt_succ_of_lt (pW.2.1 i hi).2.1, (pW.2.1 i hi).2.2⟩, pW.2.2.1, pW.2.2.2⟩
  exact ⟨X1, rfl, ⟨g9, A, fun a => if a < mZ X then ro a else 21, pa, upN ea ne (mZ X), wa, rfl, ⟨B1, D.fm B hF fm hro (hP _ (by decide) (by decide)), P.fm' B hF fm hro (m8 1108 (by omega)) (hP _ (by decide) (by decide)), E1, by
      have w1 := Wk.fm' B hF fm hro (m8 1110 (by omega)) (hP _ (by decide) (by decide))
      refine ⟨w1.1, w1.2.1, fun i hi => ?_⟩
      rw [upN_o (by have := (pW.2.1 i hi).2.1; omega)]
      exact w1.2.2 i hi, Wl.fm B hF fm (hP _ (by decide) (by decide)), Hg1⟩⟩, ⟨pD, pP, pE1, pW1, pL⟩, k9⟩
theorem m_handIn {p u : Nat} (hfu : 5000 ≤ fu) (h : StX x K T V N n np G ne ew eo es nw wp we wc wo W H X) (hP : RelP K T V N n np G ne ew nw wp we wc wo W H) (hp : p < np) (hu : u < ne) (h24 : nw < 24) : ∃ X1 o, fX11_handIn fu X x (nI p) (nI u) = some (.inr (nI nw, X1)) ∧ StX x K T V N n np G ne ew eo es (nw + 1) (upN wp nw p) (upN we nw u) wc (upN wo nw o) W H X1 ∧ RelP K T V N n np G ne ew (nw + 1) (upN wp nw p) (upN we nw u) wc (upN wo nw o) W H ∧ Keeps9 X X1 := by
  obtain ⟨hF, A, ro, pa, ea, wa, rfl, B, D, P, E, Wk, Wl, Hg⟩ := h
  obtain ⟨pD, pP, pE, pW, pL⟩ := hP
  have b1 := pP.1
  have hne := pE.1
  have hnw := pW.1
  have hx := B.k 0 11 0 (by decide)
  unfold fX11_handIn
  rw [if_pos hx, x_progI B P b1 hp, bE_r, x_exerI B E hne hu, bE_r, Wk.1, if_neg (nI_pos (by omega)), B.r 1107 0 8 (by decide), bi_some, alen_of (B.k 8 26 24 (by decide)) (by decide), bi_some]
  have hxl := hF.lt hx
  have h8 := B.k 8 26 24 (by decide)
  have h8l := hF.lt h8
  have id9 : ∀ a, a < mZ X → ro a = ro a := fun _ _ => rfl
  have fo0 : Fm (fun _ => False) X (nO X 10) := Fm.nO
  have no : ∀ (L : List Nat) (a : Nat), ro a ∈ L → ¬ False := fun _ _ _ z => z
  have rk0 : RfK X (nO X 10) := fun a ha k _ _ => mR_nO (by omega)
  have B0 : BaseX A ro (nO X 10) := B.fm hF fo0 rk0 id9 (B.2.2.fm hF (B.k 4 0 0 (by decide)) fo0 id9 (fun z => z))
  obtain ⟨o, o1, o2⟩ := x_orig (fu := fu) (by omega) hp hu B0 (P.fm B hF fo0 id9 (no _)) (E.fm B hF fo0 id9 (no _)) (Wk.fm B hF fo0 id9 (no _)) pP pW
  rw [if_pos ((nI_ltI (by omega) (by omega)).mpr (by omega)), bi_some, bi_some, if_pos (B0.k 0 11 0 (by decide)), o1, bi_some]
  have i1 : fX10_init (nO X 10) (mZ X) (some (pa p)) (some (ea u)) (oW o) = some (wI (wR (wR (nO X 10) 1000 (mZ X) (some (pa p))) 1001 (mZ X) (some (ea u))) 1002 (mZ X) (oW o)) := if_pos mK_nO0
  rw [i1, bi_some, bi_some]
  have k8 : mK (wI (wR (wR (nO X 10) 1000 (mZ X) (some (pa p))) 1001 (mZ X) (some (ea u))) 1002 (mZ X) (oW o)) (A 8) = some (26, 24) := (mK_nO (by omega)).trans h8
  have kq : mK (wI (wR (wR (nO X 10) 1000 (mZ X) (some (pa p))) 1001 (mZ X) (some (ea u))) 1002 (mZ X) (oW o)) (mZ X) = some (10, 0) := mK_nO0
  have kx : mK (sR (wI (wR (wR (nO X 10) 1000 (mZ X) (some (pa p))) 1001 (mZ X) (some (ea u))) 1002 (mZ X) (oW o)) (A 8) (nI nw).toNatClampNeg (some (mZ X))) (A 0) = some (11, 0) := (mK_nO (by omega)).trans hx
  rw [if_pos (inb_of (t := 6) k8 (by omega : nw < 24) (by omega)), if_pos kq, if_pos kx, nI_clamp (by omega), nI_1]
  have fm0 : Fm (fun b => b = mZ X ∨ b = A 8 ∨ b = A 0) X (wI (sR (wI (wR (wR (nO X 10) 1000 (mZ X) (some (pa p))) 1001 (mZ X) (some (ea u))) 1002 (mZ X) (oW o)) (A 8) nw (some (mZ X))) 1110 (A 0) (nI (nw + 1))) := ((((Fm.nO.trans (Fm.wR (Or.inl rfl))).trans (Fm.wR (Or.inl rfl))).trans (Fm.wI (Or.inl (Or.inl rfl)))).trans (Fm.sR (Or.inr (Or.inl rfl)))).trans (Fm.wI (Or.inl (Or.inr (Or.inr rfl))))
  have fm : Fm (fun b => b = A 8 ∨ b = A 0) X (wI (sR (wI (wR (wR (nO X 10) 1000 (mZ X) (some (pa p))) 1001 (mZ X) (some (ea u))) 1002 (mZ X) (oW o)) (A 8) nw (some (mZ X))) 1110 (A 0) (nI (nw + 1))) := fm0.mono (fun b hb z => z.elim (fun y => by omega) id)
  have g1 : FreshM (wI (sR (wI (wR (wR (nO X 10) 1000 (mZ X) (some (pa p))) 1001 (mZ X) (some (ea u))) 1002 (mZ X) (oW o)) (A 8) nw (some (mZ X))) 1110 (A 0) (nI (nw + 1))) := (hF.nO (c := 10)).cg rfl rfl
  have rk : RfK X (wI (sR (wI (wR (wR (nO X 10) 1000 (mZ X) (some (pa p))) 1001 (mZ X) (some (ea u))) 1002 (mZ X) (oW o)) (A 8) nw (some (mZ X))) 1110 (A 0) (nI (nw + 1))) := by
    intro a ha k _ _
    rw [mR_wIx, mR_sR, mR_wIx, mR_wR, if_neg (by omega), mR_wR, if_neg (by omega), mR_nO (by omega)]
  have m8 : ∀ k, k ≠ 1110 → mI (wI (sR (wI (wR (wR (nO X 10) 1000 (mZ X) (some (pa p))) 1001 (mZ X) (some (ea u))) 1002 (mZ X) (oW o)) (A 8) nw (some (mZ X))) 1110 (A 0) (nI (nw + 1))) k (A 0) = mI X k (A 0) := by
    intro k hk
    rw [mI_wI, if_neg (by omega), mI_sR, mI_wI, if_neg (by omega), mI_wR, mI_wR, mI_nO (by omega)]
  have n9 : mI (wI (sR (wI (wR (wR (nO X 10) 1000 (mZ X) (some (pa p))) 1001 (mZ X) (some (ea u))) 1002 (mZ X) (oW o)) (A 8) nw (some (mZ X))) 1110 (A 0) (nI (nw + 1))) 1110 (A 0) = nI (nw + 1) := by rw [mI_wI, if_pos ⟨rfl, rfl⟩]
  have a8 : ∀ j, aR (wI (sR (wI (wR (wR (nO X 10) 1000 (mZ X) (some (pa p))) 1001 (mZ X) (some (ea u))) 1002 (mZ X) (oW o)) (A 8) nw (some (mZ X))) 1110 (A 0) (nI (nw + 1))) (A 8) j = if j = nw then some (mZ X) else aR X (A 8) j := by
    intro j
    rw [aR_wIx, aR_sR]
    by_cases ej : j = nw
    · rw [if_pos ⟨rfl, ej⟩, if_pos ej]
    · rw [if_neg (fun z => ej z.2), if_neg ej]
      rfl
  have nq1 : mR (wI (sR (wI (wR (wR (nO X 10) 1000 (mZ X) (some (pa p))) 1001 (mZ X) (some (ea u))) 1002 (mZ X) (oW o)) (A 8) nw (some (mZ X))) 1110 (A 0) (nI (nw + 1))) 1000 (mZ X) = some (pa p) := by rw [mR_wIx, mR_sR, mR_wIx, mR_wR, if_neg (by omega), mR_wR, if_pos ⟨rfl, rfl⟩]
  have nq2 : mR (wI (sR (wI (wR (wR (nO X 10) 1000 (mZ X) (some (pa p))) 1001 (mZ X) (some (ea u))) 1002 (mZ X) (oW o)) (A 8) nw (some (mZ X))) 1110 (A 0) (nI (nw + 1))) 1001 (mZ X) = some (ea u) := by rw [mR_wIx, mR_sR, mR_wIx, mR_wR, if_pos ⟨rfl, rfl⟩]
  have nq3 : mI (wI (sR (wI (wR (wR (nO X 10) 1000 (mZ X) (some (pa p))) 1001 (mZ X) (some (ea u))) 1002 (mZ X) (oW o)) (A 8) nw (some (mZ X))) 1110 (A 0) (nI (nw + 1))) 1002 (mZ X) = oW o := by rw [mI_wI, if_neg (by omega), mI_sR, mI_wI, if_pos ⟨rfl, rfl⟩]
  have nq4 : mI (wI (sR (wI (wR (wR (nO X 10) 1000 (mZ X) (some (pa p))) 1001 (mZ X) (some (ea u))) 1002 (mZ X) (oW o)) (A 8) nw (some (mZ X))) 1110 (A 0) (nI (nw + 1))) 1003 (mZ X) = 0 := by rw [mI_wI, if_neg (by omega), mI_sR, mI_wI, if_neg (by omega), mI_wR, mI_wR, mI_nO0]
  have nq0 : mK (wI (sR (wI (wR (wR (nO X 10) 1000 (mZ X) (some (pa p))) 1001 (mZ X) (some (ea u))) 1002 (mZ X) (oW o)) (A 8) nw (some (mZ X))) 1110 (A 0) (nI (nw + 1))) (mZ X) = some (10, 0) := mK_nO0
  generalize wI (sR (wI (wR (wR (nO X 10) 1000 (mZ X) (some (pa p))) 1001 (mZ X) (some (ea u))) 1002 (mZ X) (oW o)) (A 8) nw (some (mZ X))) 1110 (A 0) (nI (nw + 1)) = X1 at fm g1 rk m8 n9 a8 nq0 nq1 nq2 nq3 nq4 ⊢
  have hP : ∀ (L : List Nat), 8 ∉ L → 0 ∉ L → ∀ a, ro a ∈ L → ¬ (a = A 8 ∨ a = A 0) := by
    rintro L h1 h2 a ha (z | z)
    · rw [z, B.o 8 26 24 (by decide)] at ha; exact h1 ha
    · rw [z, B.o 0 11 0 (by decide)] at ha; exact h2 ha
  have hro : ∀ a, a < mZ X → (fun a => if a < mZ X then ro a else 20) a = ro a := fun a ha => if_pos ha
  have B1 : BaseX A (fun a => if a < mZ X then ro a else 20) X1 := B.fm hF fm rk hro (B.2.2.fm hF (B.k 4 0 0 (by decide)) fm hro (hP [4] (by decide) (by decide) _ (by rw [B.o 4 0 0 (by decide)]; decide)))
  have Wk1 : WksX A (fun a => if a < mZ X then ro a else 20) pa ea (upN wa nw (mZ X)) (nw + 1) (upN wp nw p) (upN we nw u) wc (upN wo nw o) X1 := by
    refine ⟨n9, fun i j hi hj hij => ?_, fun i hi => ?_⟩
    · by_cases ei : i = nw
      · by_cases ej : j = nw
        · omega
        · rw [ei, upN_s, upN_o ej] at hij
          have := hF.lt (Wk.2.2 j (by omega)).2.1
          omega
      · by_cases ej : j = nw
        · rw [ej, upN_s, upN_o ei] at hij
          have := hF.lt (Wk.2.2 i (by omega)).2.1
          omega
        · rw [upN_o ei, upN_o ej] at hij
          exact Wk.2.1 i j (by omega) (by omega) hij
    · by_cases ei : i = nw
      · subst ei
        rw [upN_s, upN_s, upN_s, upN_s, nq1, nq2, nq3, nq4, pW.2.2.2 i (Nat.le_refl i) (by omega)]
        exact ⟨by rw [a8, if_pos rfl], nq0, if_neg (Nat.lt_irrefl _), rfl, rfl, rfl, rfl⟩
      · rw [upN_o ei, upN_o ei, upN_o ei, upN_o ei]
        obtain ⟨c1, c2, c3, c4, c5, c6, c7⟩ := Wk.2.2 i (by omega)
        have pq : ¬ (wa i = A 8 ∨ wa i = A 0) := hP [20] (by decide) (by decide) _ (by rw [c3]; decide)
        exact ⟨by rw [a8, if_neg ei]; exact c1, fm.k hF c2, (if_pos (hF.lt c2)).trans c3, by rw [fm.r hF c2 pq]; exact c4, by rw [fm.r hF c2 pq]; exact c5, by rw [fm.i hF c2 pq (by omega)]; exact c6, by rw [fm.i hF c2 pq (by omega)]; exact c7⟩
  have pW1 : WksP np ne (nw + 1) G (upN wp nw p) (upN we nw u) wc (upN wo nw o) := by
    refine ⟨by omega, fun i hi => ?_, pW.2.2.1, fun i h1 h2 => pW.2.2.2 i (by omega) h2⟩
    by_cases ei : i = nw
    · subst ei
      rw [upN_s, upN_s, upN_s]
      refine ⟨hp, hu, OrgP_cg o2 (fun v hv => ?_)⟩
      unfold cpG
      rw [upN_o (by omega), upN_s, upN_o (by omega), upN_s]
    · rw [upN_o ei, upN_o ei, upN_o ei]
      obtain ⟨c1, c2, c3⟩ := pW.2.1 i (by omega)
      refine ⟨c1, c2, OrgP_cg c3 (fun v hv => ?_)⟩
      unfold cpG
      rw [upN_o (by omega), upN_o ei, upN_o (by omega), upN_o ei]
  obtain ⟨X', z1, k, R'⟩ := x_layR (fu := fu) (K := K) (T := T) (V := V) (N := N) (n := n) (by omega) g1 B1 (D.fm B hF fm hro (hP _ (by decide) (by decide))) (P.fm' B hF fm hro (m8 1108 (by omega)) (hP _ (by decide) (by decide))) (E.fm' B hF fm hro (m8 1109 (by omega)) (hP _ (by decide) (by decide))) Wk1 (Wl.fm B hF fm (hP _ (by decide) (by decide))) pP pE pW1 pL
  rw [z1, bi_some]
  exact ⟨X', o, rfl, ⟨g1.cg k.1 k.2.2.2.2.1, A, fun a => if a < mZ X then ro a else 20, pa, ea, upN wa nw (mZ X), rfl, R'⟩, ⟨pD, pP, pE, pW1, pL⟩, by rw [k.2.2.2.2.1]; exact fm.1, fun a ha => by rw [k.1]; exact fm.2.1 a ha⟩
end MN
