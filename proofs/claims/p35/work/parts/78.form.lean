/-! THE CLASS builds a form -/
theorem FreshM.lt {X : Mem} {a : Nat} {k : Nat × Nat} (hf : FreshM X) (h : mK X a = some k) : a < mZ X := hf a (by rw [h]; exact fun z => nomatch z)
theorem kne {X : Mem} {a b : Nat} {k1 k2 : Nat × Nat} (h1 : mK X a = some k1) (h2 : mK X b = some k2) (h : k1 ≠ k2) : a ≠ b := fun q => h (by rw [q, h2] at h1; exact (Option.some.inj h1).symm)
theorem kne1 {X : Mem} {a b c1 n1 c2 n2 : Nat} (h1 : mK X a = some (c1, n1)) (h2 : mK X b = some (c2, n2)) (h : c1 ≠ c2) : a ≠ b := kne h1 h2 (fun z => h (congrArg Prod.fst z))
theorem Fm.k {P : Nat → Prop} {X X1 : Mem} {a : Nat} {k : Nat × Nat} (h : Fm P X X1) (hf : FreshM X) (h1 : mK X a = some k) : mK X1 a = some k := (h.2.1 a (hf.lt h1)).trans h1
theorem Fm.r {P : Nat → Prop} {X X1 : Mem} {a i : Nat} {k : Nat × Nat} (h : Fm P X X1) (hf : FreshM X) (h1 : mK X a = some k) (hp : ¬ P a) : mR X1 i a = mR X i a := (h.2.2 a (hf.lt h1) hp).2.1 i
theorem Fm.i {P : Nat → Prop} {X X1 : Mem} {a i : Nat} {k : Nat × Nat} (h : Fm P X X1) (hf : FreshM X) (h1 : mK X a = some k) (hp : ¬ P a) (hi : i < 700 ∨ 900 ≤ i) : mI X1 i a = mI X i a := (h.2.2 a (hf.lt h1) hp).1 i hi
theorem Fm.ai {P : Nat → Prop} {X X1 : Mem} {a : Nat} {k : Nat × Nat} (h : Fm P X X1) (hf : FreshM X) (h1 : mK X a = some k) (hp : ¬ P a) : aI X1 a = aI X a := (h.2.2 a (hf.lt h1) hp).2.2.1
theorem Fm.ar {P : Nat → Prop} {X X1 : Mem} {a : Nat} {k : Nat × Nat} (h : Fm P X X1) (hf : FreshM X) (h1 : mK X a = some k) (hp : ¬ P a) : aR X1 a = aR X a := (h.2.2 a (hf.lt h1) hp).2.2.2.1
theorem Fm.aj {P : Nat → Prop} {X X1 : Mem} {a : Nat} {k : Nat × Nat} (h : Fm P X X1) (hf : FreshM X) (h1 : mK X a = some k) (hp : ¬ P a) : aJ X1 a = aJ X a := (h.2.2 a (hf.lt h1) hp).2.2.2.2
def FP (ra rb fa fb fo : Nat) (b : Nat) : Prop := b = ra ∨ b = rb ∨ b = fa ∨ b = fb ∨ b = fo
def cdX (k tg nn va : Int32) : Int32 := ((((k <<< ((4 : Int32) &&& 31)) ||| (tg <<< ((1 : Int32) &&& 31))) ||| nn) <<< ((8 : Int32) &&& 31)) ||| (va + 99)
theorem cdX_C {K T V N : Nat → Int32} {k : Nat} : cdX (K k) (fTg K T V N k) (N k) (fVa K T V N k) = cdC K T V N k := rfl
theorem d_code {X : Mem} {o : Nat} {k nn tg va : Int32} (h1 : mK X o = some (4, 0)) (h2 : mI X 400 o = k) (h3 : mI X 403 o = nn) (hn : nn = 0 ∨ nn = 1) : fX5_codeOf X (some o) tg va = some (cdX k tg nn va) := by
  unfold fX5_codeOf fX5_codeOf_L22 cdX
  rw [bi_some, if_pos h1, h2, h3]
  rcases hn with e | e
  · rw [e, if_pos rfl]
  · rw [e, if_neg (by decide)]
section FRM
variable {pr os pa fo ra fa rb fb n : Nat} {oa : Nat → Nat} {K T V N : Nat → Int32}
theorem PG.nfr {P : Nat → Prop} {X X1 : Mem} (h : PG pr os pa oa K T V N n X) (k : NFr P X X1) (hP : ∀ i, i < n → ¬ P (oa i)) : PG pr os pa oa K T V N n X1 := by
  obtain ⟨a1, a2, a3, a4, a5, a6⟩ := h
  refine ⟨by rw [k.1]; exact a1, by rw [k.2.1]; exact a2, by rw [k.2.1]; exact a3, by rw [k.1]; exact a4, by rw [k.1]; exact a5, fun i hi => ?_⟩
  have e := (k.2.2.2.2.2 _ (hP i hi)).1
  rw [k.2.2.1, k.1, e 400, e 401, e 402, e 403]
  exact a6 i hi
theorem PG.fm {P : Nat → Prop} {X X1 : Mem} (h : PG pr os pa oa K T V N n X) (hf : FreshM X) (k : Fm P X X1) (h1 : ¬ P pr) (h2 : ¬ P os) (h3 : ∀ i, i < n → ¬ P (oa i)) : PG pr os pa oa K T V N n X1 := by
  obtain ⟨a1, a2, a3, a4, a5, a6⟩ := h
  refine ⟨k.k hf a1, by rw [k.r hf a1 h1]; exact a2, by rw [k.r hf a1 h1]; exact a3, k.k hf a4, k.k hf a5, fun i hi => ?_⟩
  obtain ⟨b1, b2, b3, b4, b5, b6⟩ := a6 i hi
  refine ⟨by rw [k.ar hf a4 h2]; exact b1, k.k hf b2, by rw [k.i hf b2 (h3 i hi) (by omega)]; exact b3, by rw [k.i hf b2 (h3 i hi) (by omega)]; exact b4, by rw [k.i hf b2 (h3 i hi) (by omega)]; exact b5, by rw [k.i hf b2 (h3 i hi) (by omega)]; exact b6⟩
theorem RN.fm {P : Nat → Prop} {X X1 : Mem} {f : Nat → Int32} (h : RN X ra fa f) (hf : FreshM X) (k : Fm P X X1) (h1 : ¬ P ra) (h2 : ¬ P fa) : RN X1 ra fa f := by
  obtain ⟨a1, a2, a3, a4, a5⟩ := h
  exact ⟨k.k hf a1, by rw [k.r hf a1 h1]; exact a2, k.k hf a3, by rw [k.i hf a1 h1 (by omega)]; exact a4, fun j hj => by rw [k.ai hf a3 h2]; exact a5 j hj⟩
theorem FP_oa {X : Mem} {f g : Nat → Int32} (h : PG pr os pa oa K T V N n X) (h1 : RN X ra fa f) (h2 : RN X rb fb g) (h3 : mK X fo = some (20, n)) : ∀ i, i < n → ¬ FP ra rb fa fb fo (oa i) := by
  intro i hi
  have k := (h.2.2.2.2.2 i hi).2.1
  rintro (q | q | q | q | q)
  · exact kne k h1.1 (by decide) q
  · exact kne k h2.1 (by decide) q
  · exact kne k h1.2.2.1 (by decide) q
  · exact kne k h2.2.2.1 (by decide) q
  · exact kne1 k h3 (by decide) q
theorem d_f140 {fu k : Nat} {X : Mem} {tg va : Int32} (rec18 : Mem → Nat → Nat → Nat → Int32 → Option Mem) (h : PG pr os pa oa K T V N n X) (hn : n ≤ 30) (hfo : mR X 504 pr = some fo) (hfk : mK X fo = some (20, n)) (hk : k < n) (hN : N k = 0 ∨ N k = 1) : fX5_buildForm_L140 fu rec18 X pr ra rb (nI k) (oa k) tg va = rec18 (sI X fo k (cdX (K k) tg (N k) va)) pr ra rb (nI (k + 1)) := by
  obtain ⟨o1, o2, o3, o4, o5, o6⟩ := h.2.2.2.2.2 k hk
  unfold fX5_buildForm_L140 fX5_buildForm_L157
  rw [if_pos h.1, d_code o2 o3 o6 hN, bi_some, hfo, bi_some, if_pos (inb_of (t := 0) hfk hk (by omega)), nI_clamp (by omega), nI_1]
theorem d_f115 {fu k : Nat} {X : Mem} {s : Nbs} {tg : Int32} (rec18 : Mem → Nat → Nat → Nat → Int32 → Option Mem) (hP : VP K T V N n) (hk : k < n) (h : PG pr os pa oa K T V N n X) (hfo : mR X 504 pr = some fo) (hfk : mK X fo = some (20, n)) (h1 : RN X ra fa s.1) (h2 : RN X rb fb s.2) (n1 : fo ≠ fa) (n2 : fo ≠ fb) (n3 : ra ≠ rb) (n4 : fa ≠ fb) :
    ∃ X2, fX5_buildForm_L115 fu rec18 X pr ra rb (nI k) (oa k) tg = rec18 X2 pr ra rb (nI (k + 1)) ∧ NFr (FP ra rb fa fb fo) X X2 ∧ RN X2 ra fa (fmV V N k s).2.1 ∧ RN X2 rb fb (fmV V N k s).2.2 ∧ aI X2 fo k = cdX (K k) tg (N k) (fmV V N k s).1 ∧ ∀ j, j ≠ k → aI X2 fo j = aI X fo j := by
  obtain ⟨o1, o2, o3, o4, o5, o6⟩ := h.2.2.2.2.2 k hk
  have hn := hP.1
  have hv := hP.2.2.2.2.2.1 k hk
  have fra : fo ≠ ra := kne1 hfk h1.1 (by decide)
  have frb : fo ≠ rb := kne1 hfk h2.1 (by decide)
  unfold fX5_buildForm_L115
  rw [if_pos o2, o6, o5]
  have fin : ∀ (X1 : Mem) (va : Int32) (s1 : Nbs), NFr (FP ra rb fa fb fo) X X1 → RN X1 ra fa s1.1 → RN X1 rb fb s1.2 → aI X1 fo = aI X fo → ∃ X2, fX5_buildForm_L140 fu rec18 X1 pr ra rb (nI k) (oa k) tg va = rec18 X2 pr ra rb (nI (k + 1)) ∧ NFr (FP ra rb fa fb fo) X X2 ∧ RN X2 ra fa s1.1 ∧ RN X2 rb fb s1.2 ∧ aI X2 fo k = cdX (K k) tg (N k) va ∧ ∀ j, j ≠ k → aI X2 fo j = aI X fo j := by
    intro X1 va s1 f1 r1 r2 f2
    have g1 := h.nfr f1 (FP_oa h h1 h2 hfk)
    refine ⟨_, d_f140 rec18 g1 hn (by rw [f1.2.1]; exact hfo) (by rw [f1.1]; exact hfk) hk (hv.elim (fun q => Or.inl q.1) (fun q => Or.inr q.1)), f1.trans (NFr.sI (Or.inr (Or.inr (Or.inr (Or.inr rfl))))), ?_, ?_, ?_, fun j hj => ?_⟩
    · exact r1.nfr (NFr.sI (P := fun b => b = fo) rfl) (fun q => fra q.symm) (fun q => n1 q.symm)
    · exact r2.nfr (NFr.sI (P := fun b => b = fo) rfl) (fun q => frb q.symm) (fun q => n2 q.symm)
    · rw [aI_sI, if_pos ⟨rfl, rfl⟩]
    · rw [aI_sI, if_neg (fun q => hj q.2), f2]
  rcases hv with ⟨e, -, -⟩ | ⟨e, v1, v2⟩
  · rw [if_pos e]
    have ee : fmV V N k s = (V k, s) := if_pos e
    rw [ee]
    exact fin X (V k) s NFr.rfl9 h1 h2 rfl
  · have e0 : ¬ N k = 0 := by rw [e]; decide
    rw [if_neg e0, if_pos h1.1]
    have ee : fmV V N k s = ((anw s.1 (V k).toNatClampNeg).1, (anw s.1 (V k).toNatClampNeg).2, s.2) := if_neg e0
    rw [ee]
    obtain ⟨j, hj, ev⟩ := t_lt4 v1 v2
    obtain ⟨X1, w1, w2, w3⟩ := d_numOf h1 hj
    rw [ev, w1, bW_some, nI_clamp (by omega)]
    refine fin X1 _ ((anw s.1 j).1, (anw s.1 j).2, s.2).2 (w3.mono (fun b hb => hb.elim Or.inl (fun q => Or.inr (Or.inr (Or.inl q))))) w2 (h2.nfr w3 (fun q => ?_) (fun q => ?_)) (w3.2.2.2.2.2 fo (fun q => q.elim fra n1)).2
    · exact q.elim (fun z => n3 z.symm) (fun z => kne h2.1 h1.2.2.1 (by decide) z)
    · exact q.elim (fun z => kne h2.2.2.1 h1.1 (by decide) z) (fun z => n4 z.symm)
theorem d_form18 {fu : Nat} (hP : VP K T V N n) (n1 : fo ≠ fa) (n2 : fo ≠ fb) (n3 : ra ≠ rb) (n4 : fa ≠ fb) : ∀ (t k m : Nat) (X : Mem), k + t = n → PG pr os pa oa K T V N n X → mR X 504 pr = some fo → mK X fo = some (20, n) → RN X ra fa (fmS K T V N k).1 → RN X rb fb (fmS K T V N k).2 → (∀ j, j < k → aI X fo j = cdC K T V N j) →
    ∃ X', fX5_buildForm_L18 fu (m + t + 1) X pr ra rb (nI k) = some X' ∧ NFr (FP ra rb fa fb fo) X X' ∧ ∀ j, j < n → aI X' fo j = cdC K T V N j := by
  have hn := hP.1
  intro t
  induction t with
  | zero =>
    intro k m X hk h hfo hfk h1 h2 h3
    have hk : k = n := hk
    subst hk
    refine ⟨X, ?_, NFr.rfl9, h3⟩
    show fX5_buildForm_L18b fu (fX5_buildForm_L18 fu m) X pr ra rb (nI k) = _
    unfold fX5_buildForm_L18b
    rw [if_pos h.1, h.2.1, bi_some, alen_of h.2.2.2.1 (by decide), bi_some, if_pos (Int32.le_refl _)]
  | succ t ih =>
    intro k m X hk h hfo hfk h1 h2 h3
    have hkn : k < n := by omega
    obtain ⟨o1, o2, o3, o4, o5, o6⟩ := h.2.2.2.2.2 k hkn
    obtain ⟨tj, htj, et⟩ := t_lt4 (hP.2.2.2.2.1 k hkn).1 (hP.2.2.2.2.1 k hkn).2
    have fra : fo ≠ ra := kne1 hfk h1.1 (by decide)
    have frb : fo ≠ rb := kne1 hfk h2.1 (by decide)
    have hP9 := FP_oa h h1 h2 hfk
    have fin : ∀ X1, NFr (FP ra rb fa fb fo) X X1 → RN X1 ra fa (fmT K T k (fmS K T V N k)).2.1 → RN X1 rb fb (fmT K T k (fmS K T V N k)).2.2 → aI X1 fo = aI X fo → ∃ X', fX5_buildForm_L115 fu (fX5_buildForm_L18 fu (m + t + 1)) X1 pr ra rb (nI k) (oa k) (fTg K T V N k) = some X' ∧ NFr (FP ra rb fa fb fo) X X' ∧ ∀ j, j < n → aI X' fo j = cdC K T V N j := by
      intro X1 f1 r1 r2 f2
      have g1 := h.nfr f1 hP9
      have q1 : mR X1 504 pr = some fo := by rw [f1.2.1]; exact hfo
      have q2 : mK X1 fo = some (20, n) := by rw [f1.1]; exact hfk
      obtain ⟨X2, w1, w2, w3, w4, w5, w6⟩ := d_f115 (fu := fu) (tg := fTg K T V N k) (fX5_buildForm_L18 fu (m + t + 1)) hP hkn g1 q1 q2 r1 r2 n1 n2 n3 n4
      have g2 := g1.nfr w2 (FP_oa g1 r1 r2 q2)
      obtain ⟨X', z1, z2, z3⟩ := ih (k + 1) m X2 (by omega) g2 (by rw [w2.2.1]; exact q1) (by rw [w2.1]; exact q2) w3 w4 (fun j hj => by
        by_cases e : j = k
        · rw [e, w5]
          exact cdX_C
        · rw [w6 j e, f2]
          exact h3 j (by omega))
      exact ⟨X', w1.trans z1, (f1.trans w2).trans z2, z3⟩
    show ∃ X', fX5_buildForm_L18b fu (fX5_buildForm_L18 fu (m + t + 1)) X pr ra rb (nI k) = some X' ∧ _
    unfold fX5_buildForm_L18b
    rw [if_pos h.1, h.2.1, bi_some, alen_of h.2.2.2.1 (by decide), bi_some, if_neg (fun q => by have := (nI_leI (by omega) (by omega)).mp q; omega), hfo, bi_some, alen_of hfk (by decide), bi_some, if_neg (fun q => by have := (nI_leI (by omega) (by omega)).mp q; omega), bi_some, if_pos (inb_of (t := 3) h.2.2.2.1 hkn (by omega)), nI_clamp (by omega), o1, if_neg (by exact fun q => nomatch q), bi_some, if_pos o2, o3]
    have c70 : (K k = 3 ∨ K k = 4) → ∃ X', fX5_buildForm_L70 fu (fX5_buildForm_L18 fu (m + t + 1)) X pr ra rb (nI k) (oa k) = some X' ∧ NFr (FP ra rb fa fb fo) X X' ∧ ∀ j, j < n → aI X' fo j = cdC K T V N j := by
      intro e
      have eT : fmT K T k (fmS K T V N k) = ((anw (fmS K T V N k).1 (T k).toNatClampNeg).1, (anw (fmS K T V N k).1 (T k).toNatClampNeg).2, (fmS K T V N k).2) := if_pos e
      obtain ⟨X1, w1, w2, w3⟩ := d_numOf h1 htj
      unfold fX5_buildForm_L70
      rw [if_pos o2, if_pos h1.1, o4, et, w1, bW_some]
      have c : (nI tj).toNatClampNeg = tj := nI_clamp (by omega)
      have kk := fin X1 (w3.mono (fun b hb => hb.elim Or.inl (fun q => Or.inr (Or.inr (Or.inl q))))) (by rw [eT, et, c]; exact w2) (by
        rw [eT]
        refine h2.nfr w3 (fun q => ?_) (fun q => ?_)
        · exact q.elim (fun z => n3 z.symm) (fun z => kne h2.1 h1.2.2.1 (by decide) z)
        · exact q.elim (fun z => kne h2.2.2.1 h1.1 (by decide) z) (fun z => n4 z.symm)) (w3.2.2.2.2.2 fo (fun q => q.elim fra n1)).2
      have ef : fTg K T V N k = (anw (fmS K T V N k).1 tj).1 := by
        unfold fTg
        rw [eT, et, c]
      rw [ef] at kk
      exact kk
    have c104 : (K k = 6 ∨ K k = 7) → ∃ X', fX5_buildForm_L104 fu (fX5_buildForm_L18 fu (m + t + 1)) X pr ra rb (nI k) (oa k) = some X' ∧ NFr (FP ra rb fa fb fo) X X' ∧ ∀ j, j < n → aI X' fo j = cdC K T V N j := by
      intro e
      have e34 : ¬ (K k = 3 ∨ K k = 4) := by rcases e with q | q <;> rw [q] <;> decide
      have eT : fmT K T k (fmS K T V N k) = ((anw (fmS K T V N k).2 (T k).toNatClampNeg).1, (fmS K T V N k).1, (anw (fmS K T V N k).2 (T k).toNatClampNeg).2) := (if_neg e34).trans (if_pos e)
      obtain ⟨X1, w1, w2, w3⟩ := d_numOf h2 htj
      unfold fX5_buildForm_L104
      rw [if_pos o2, if_pos h2.1, o4, et, w1, bW_some]
      have c : (nI tj).toNatClampNeg = tj := nI_clamp (by omega)
      have kk := fin X1 (w3.mono (fun b hb => hb.elim (fun q => Or.inr (Or.inl q)) (fun q => Or.inr (Or.inr (Or.inr (Or.inl q)))))) (by
        rw [eT]
        refine h1.nfr w3 (fun q => ?_) (fun q => ?_)
        · exact q.elim n3 (fun z => kne h1.1 h2.2.2.1 (by decide) z)
        · exact q.elim (fun z => kne h1.2.2.1 h2.1 (by decide) z) n4) (by rw [eT, et, c]; exact w2) (w3.2.2.2.2.2 fo (fun q => q.elim frb n2)).2
      have ef : fTg K T V N k = (anw (fmS K T V N k).2 tj).1 := by
        unfold fTg
        rw [eT, et, c]
      rw [ef] at kk
      exact kk
    by_cases e3 : K k = 3
    · rw [if_pos e3]
      exact c70 (Or.inl e3)
    rw [if_neg e3]
    by_cases e4 : K k = 4
    · rw [if_pos e4]
      exact c70 (Or.inr e4)
    rw [if_neg e4]
    by_cases e6 : K k = 6
    · rw [if_pos e6]
      exact c104 (Or.inl e6)
    rw [if_neg e6]
    by_cases e7 : K k = 7
    · rw [if_pos e7]
      exact c104 (Or.inr e7)
    rw [if_neg e7]
    have eT : fmT K T k (fmS K T V N k) = (0, fmS K T V N k) := (if_neg (fun q => q.elim e3 e4)).trans (if_neg (fun q => q.elim e6 e7))
    have kk := fin X NFr.rfl9 (by rw [eT]; exact h1) (by rw [eT]; exact h2) rfl
    have ef : fTg K T V N k = 0 := by
      unfold fTg
      rw [eT]
    rw [ef] at kk
    exact kk
theorem d_buildForm {fu : Nat} {X : Mem} (hP : VP K T V N n) (hfu : 100 ≤ fu) (hf : FreshM X) (h : PG pr os pa oa K T V N n X) (hfo : mR X 504 pr = some fo) (hfk : mK X fo = some (20, n)) : ∃ X', fX5_buildForm fu X pr = some X' ∧ Fm (fun b => b = fo) X X' ∧ FreshM X' ∧ ∀ j, j < n → aI X' fo j = cdC K T V N j := by
  have hn := hP.1
  unfold fX5_buildForm
  rw [bi_some, bi_some]
  have f0 : Fm (fun _ => False) X (nO X 6) := Fm.nO
  have r0 : FreshM (nO X 6) := hf.nO
  have k0 : mK (nO X 6) (mZ X) = some (6, 0) := if_pos rfl
  have i0 : mI (nO X 6) 601 (mZ X) = 0 := if_pos rfl
  have z0 : mZ (nO X 6) = mZ X + 1 := rfl
  generalize nO X 6 = X0 at f0 r0 k0 i0 z0 ⊢
  obtain ⟨X4, a1, a2, a3, a4, a5⟩ := d_ren (by omega : 10 ≤ fu) r0 k0 i0
  rw [a1, bi_some, bi_some, bi_some]
  have f8 : Fm (fun _ => False) X4 (nO X4 6) := Fm.nO
  have r8 : FreshM (nO X4 6) := a5.nO
  have k8 : mK (nO X4 6) (mZ X4) = some (6, 0) := if_pos rfl
  have i8 : mI (nO X4 6) 601 (mZ X4) = 0 := if_pos rfl
  have z8 : mZ (nO X4 6) = mZ X4 + 1 := rfl
  have b2 := a2.fm a5 f8 (fun q => q) (fun q => q)
  generalize nO X4 6 = X8 at f8 r8 k8 i8 z8 b2 ⊢
  obtain ⟨X12, c1, c2, c3, c4, c5⟩ := d_ren (by omega : 10 ≤ fu) r8 k8 i8
  rw [c1, bi_some]
  have e2 := b2.fm r8 c3 (by omega) (by omega)
  have f12 : Fm (fun b => b = mZ X ∨ b = mZ X4) X X12 := (((f0.mono (fun _ _ q => q.elim)).trans (a3.mono (fun b _ q => Or.inl q))).trans (f8.mono (fun _ _ q => q.elim))).trans (c3.mono (fun b _ q => Or.inr q))
  have lt : ∀ {a : Nat} {k : Nat × Nat}, mK X a = some k → ¬ (a = mZ X ∨ a = mZ X4) := fun h9 q => by have := hf.lt h9; omega
  have g12 := h.fm hf f12 (lt h.1) (lt h.2.2.2.1) (fun i hi => lt (h.2.2.2.2.2 i hi).2.1)
  have hfol := hf.lt hfk
  obtain ⟨X', z1, z2, z3⟩ := d_form18 (fu := fu) (pr := pr) (fo := fo) hP (by omega) (by omega) (by omega) (by omega) n 0 (fu - n - 1) X12 (by omega) g12 (by rw [f12.r hf h.1 (lt h.1)]; exact hfo) (f12.k hf hfk) e2 c2 (fun j hj => absurd hj (Nat.not_lt_zero j))
  rw [show fu - n - 1 + n + 1 = fu by omega] at z1
  refine ⟨X', z1, ?_, c5.cg z2.1 z2.2.2.2.2.1, z3⟩
  have k9 : Fm (fun b => b = mZ X ∨ b = mZ X4 ∨ FP (mZ X) (mZ X4) (mZ X0) (mZ X8) fo b) X X' := (f12.mono (fun b _ q => q.elim Or.inl (fun z => Or.inr (Or.inl z)))).trans (z2.fm.mono (fun b _ q => Or.inr (Or.inr q)))
  refine k9.mono (fun b hb q => ?_)
  rcases q with q | q | q | q | q | q | q
  · omega
  · omega
  · omega
  · omega
  · omega
  · omega
  · exact q
end FRM
