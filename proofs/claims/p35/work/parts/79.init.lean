/-! THE CLASS makes a program -/
def Al (f a t n : Nat) (X X' : Mem) : Prop := mK X' (mZ X) = some (20 + t, n) ∧ (∀ b, b ≠ mZ X → mK X' b = mK X b) ∧ mR X' f a = some (mZ X) ∧ (∀ k b, (k ≠ f ∨ b ≠ a) → mR X' k b = mR X k b) ∧ (∀ k b, mI X' k b = mI X k b) ∧ (∀ j, aI X' (mZ X) j = 0) ∧ (∀ b j, b ≠ mZ X → aI X' b j = aI X b j) ∧ mZ X' = mZ X + 1 ∧ (FreshM X → FreshM X') ∧ Fm (fun b => b = a) X X'
theorem al_of {f a t n : Nat} {X : Mem} : Al f a t n X (wR (nA X t n) f a (some (mZ X))) := ⟨if_pos rfl, fun b hb => if_neg hb, if_pos ⟨rfl, rfl⟩, fun k b h => if_neg (fun q => h.elim (fun z => z q.1) (fun z => z q.2)), fun _ _ => rfl, fun _ => if_pos rfl, fun b j hb => if_neg hb, rfl, fun h => (h.nA (t := t) (n := n)).cg rfl rfl, Fm.nA.trans (Fm.wR rfl)⟩
theorem kA {X : Mem} {a t n : Nat} {k : Option (Nat × Nat)} (h : mK X a = k) (hl : a < mZ X) : mK (nA X t n) a = k := (if_neg (Nat.ne_of_lt hl)).trans h
theorem d_drw {X : Mem} {a : Nat} (hf : FreshM X) (h : mK X a = some (2, 0)) : ∃ X1 X2, fX2_init X a = some X2 ∧ Al 200 a 0 16 X X1 ∧ Al 201 a 0 16 X1 X2 := by
  have hl := hf.lt h
  have k1 : mK (nA X 0 16) a = some (2, 0) := kA h hl
  have s1 : Al 200 a 0 16 X (wR (nA X 0 16) 200 a (some (mZ X))) := al_of
  unfold fX2_init
  rw [bi_some, bi_some, if_pos k1]
  generalize wR (nA X 0 16) 200 a (some (mZ X)) = X1 at s1 ⊢
  have k2 : mK X1 a = some (2, 0) := (s1.2.1 a (Nat.ne_of_lt hl)).trans h
  have hl2 : a < mZ X1 := by rw [s1.2.2.2.2.2.2.2.1]; omega
  rw [bi_some, bi_some, if_pos (kA k2 hl2)]
  exact ⟨X1, _, rfl, s1, al_of⟩
def PgA (pr os pa wa fo dr ra ua : Nat) (oa : Nat → Nat) (K T V N : Nat → Int32) (n : Nat) (X : Mem) : Prop := PG pr os pa oa K T V N n X ∧ mR X 503 pr = some wa ∧ mK X wa = some (20, 4) ∧ mR X 504 pr = some fo ∧ mK X fo = some (20, n) ∧ mR X 505 pr = some dr ∧ mK X dr = some (2, 0) ∧ mR X 200 dr = some ra ∧ mK X ra = some (20, 16) ∧ mR X 201 dr = some ua ∧ mK X ua = some (20, 16) ∧ (∀ o, o < n → (K o = 5 ∨ K o = 6) → aI X pa o = nI (clG K n o) ∧ aI X pa (clG K n o) = nI o) ∧ (∀ t, t < 4 → aI X wa t = oW (wsF K T n (nI t))) ∧ ∀ j, j < n → aI X fo j = cdC K T V N j
/-- the draft's orders -/
def DG (d dO : Nat) (oa : Nat → Nat) (K T V N : Nat → Int32) (n : Nat) (X : Mem) : Prop := mK X d = some (1, 0) ∧ mR X 100 d = some dO ∧ mK X dO = some (23, 30) ∧ mI X 102 d = nI n ∧ ∀ i, i < n → aR X dO i = some (oa i) ∧ mK X (oa i) = some (4, 0) ∧ mI X 400 (oa i) = K i ∧ mI X 401 (oa i) = T i ∧ mI X 402 (oa i) = V i ∧ mI X 403 (oa i) = N i
theorem DG.fm {P : Nat → Prop} {d dO n : Nat} {oa : Nat → Nat} {K T V N : Nat → Int32} {X X1 : Mem} (h : DG d dO oa K T V N n X) (hf : FreshM X) (k : Fm P X X1) (h1 : ¬ P d) (h2 : ¬ P dO) (h3 : ∀ i, i < n → ¬ P (oa i)) : DG d dO oa K T V N n X1 := by
  obtain ⟨a1, a2, a3, a4, a5⟩ := h
  refine ⟨k.k hf a1, by rw [k.r hf a1 h1]; exact a2, k.k hf a3, by rw [k.i hf a1 h1 (by omega)]; exact a4, fun i hi => ?_⟩
  obtain ⟨b1, b2, b3, b4, b5, b6⟩ := a5 i hi
  refine ⟨by rw [k.ar hf a3 h2]; exact b1, k.k hf b2, by rw [k.i hf b2 (h3 i hi) (by omega)]; exact b3, by rw [k.i hf b2 (h3 i hi) (by omega)]; exact b4, by rw [k.i hf b2 (h3 i hi) (by omega)]; exact b5, by rw [k.i hf b2 (h3 i hi) (by omega)]; exact b6⟩
section INI
variable {pr os pa wa fo d dO n : Nat} {oa : Nat → Nat} {K T V N : Nat → Int32}
theorem d_dOrder {X : Mem} {j : Nat} (h : DG d dO oa K T V N n X) (hn : n ≤ 30) (hj : j < n) : fX1_orderAt X d (nI j) = some (some (oa j)) := by
  unfold fX1_orderAt
  rw [if_neg (nI_pos (by omega)), if_pos h.1, h.2.2.2.1, if_neg (fun q => by have := (nI_leI (by omega) (by omega)).mp q; omega), h.2.1, bi_some, alen_of h.2.2.1 (by decide), bi_some, if_neg (fun q => by have := (nI_leI (by omega) (by omega)).mp q; omega), bi_some, if_pos (inb_of (t := 3) h.2.2.1 (by omega : j < 30) (by omega)), nI_clamp (by omega), (h.2.2.2.2 j hj).1]
/-- the orders come over, then blocks, words and the form are laid -/
theorem d_init95 {fu : Nat} (hP : VP K T V N n) (hfu : 200 ≤ fu) (w1 : wa ≠ pa) (w2 : fo ≠ pa) (w3 : fo ≠ wa) (w4 : os ≠ dO) : ∀ (t i m : Nat) (X : Mem), i + t = n → FreshM X → DG d dO oa K T V N n X → mK X pr = some (5, 0) → mR X 501 pr = some os → mR X 502 pr = some pa → mK X os = some (23, n) → mK X pa = some (20, n) → mR X 503 pr = some wa → mK X wa = some (20, 4) → mR X 504 pr = some fo → mK X fo = some (20, n) → (∀ j, j < 4 → aI X wa j = -1) → (∀ j, j < i → aR X os j = some (oa j)) →
    ∃ X', fX5_init_L95 fu (m + t + 1) X pr d (nI i) = some X' ∧ Fm (fun b => b = os ∨ b = pa ∨ b = wa ∨ b = fo) X X' ∧ FreshM X' ∧ PG pr os pa oa K T V N n X' ∧ (∀ o, o < n → (K o = 5 ∨ K o = 6) → aI X' pa o = nI (clG K n o) ∧ aI X' pa (clG K n o) = nI o) ∧ (∀ t, t < 4 → aI X' wa t = oW (wsF K T n (nI t))) ∧ ∀ j, j < n → aI X' fo j = cdC K T V N j := by
  have hn := hP.1
  intro t
  induction t with
  | zero =>
    intro i m X hi hf hD k1 r1 r2 k2 k3 r3 k4 r4 k5 hw ho
    have hi : i = n := hi
    subst hi
    have hG : PG pr os pa oa K T V N i X := ⟨k1, r1, r2, k2, k3, fun j hj => ⟨ho j hj, (hD.2.2.2.2 j hj).2⟩⟩
    show ∃ X', fX5_init_L95b fu (fX5_init_L95 fu m) X pr d (nI i) = some X' ∧ _
    unfold fX5_init_L95b
    rw [if_pos k1, r1, bi_some, alen_of k2 (by decide), bi_some, if_pos (Int32.le_refl _)]
    obtain ⟨X1, a1, a2, a3⟩ := d_pair (fu := fu) hP (by omega) i 0 (fu - i - 1) X (by omega) hG (fun o ho => absurd ho (Nat.not_lt_zero o))
    rw [show fu - i - 1 + i + 1 = fu by omega] at a1
    have a1 : fX5_pairBlocks fu X pr = some X1 := a1
    have g1 := hG.fr a2
    rw [a1, bi_some, if_pos g1.1]
    obtain ⟨X2, b1, b2, b3⟩ := d_words (fu := fu) (wa := wa) hP w1 i 0 (fu - i - 1) X1 (by omega) g1 (by rw [a2.2.2.1]; exact r3) (by rw [a2.1]; exact k4) (fun j hj => by rw [a2.2.2.2.2.2.2 wa w1, hw j hj]; rfl)
    rw [show fu - i - 1 + i + 1 = fu by omega] at b1
    have b1 : fX5_findWords fu X1 pr = some X2 := b1
    have g2 := g1.fr b2
    rw [b1, bi_some, if_pos g2.1]
    have hf2 : FreshM X2 := (hf.cg a2.1 a2.2.2.2.2.2.1).cg b2.1 b2.2.2.2.2.2.1
    obtain ⟨X3, c1, c2, c3, c4⟩ := d_buildForm (fu := fu) (fo := fo) hP (by omega) hf2 g2 (by rw [b2.2.2.1, a2.2.2.1]; exact r4) (by rw [b2.1, a2.1]; exact k5)
    rw [c1, bi_some]
    have hfl := fun {a : Nat} {k : Nat × Nat} (h9 : mK X2 a = some k) => hf2.lt h9
    have kpa : mK X2 pa = some (20, i) := by rw [b2.1, a2.1]; exact k3
    have kwa : mK X2 wa = some (20, 4) := by rw [b2.1, a2.1]; exact k4
    have kfo : mK X2 fo = some (20, i) := by rw [b2.1, a2.1]; exact k5
    have g3 := g2.fm hf2 c2 (fun q => kne1 g2.1 kfo (by decide) q) (fun q => kne1 g2.2.2.2.1 kfo (by decide) q) (fun j hj q => kne1 (g2.2.2.2.2.2 j hj).2.1 kfo (by decide) q)
    refine ⟨X3, rfl, ((a2.nfr.fm.mono (fun b _ q => Or.inr (Or.inl q))).trans (b2.nfr.fm.mono (fun b _ q => Or.inr (Or.inr (Or.inl q))))).trans (c2.mono (fun b _ q => Or.inr (Or.inr (Or.inr q)))), c3, g3, fun o ho hk => ?_, fun t ht => ?_, c4⟩
    · rw [c2.ai hf2 kpa (fun q => w2 q.symm), b2.2.2.2.2.2.2 pa (fun q => w1 q.symm)]
      have q := (a3 o ho hk).2 (by rw [hP.2.2.1]; exact List.not_mem_nil)
      exact ⟨q.1, q.2.1⟩
    · rw [c2.ai hf2 kwa (fun q => w3 q.symm)]
      exact b3 t ht
  | succ t ih =>
    intro i m X hi hf hD k1 r1 r2 k2 k3 r3 k4 r4 k5 hw ho
    have hin : i < n := by omega
    obtain ⟨o1, o2, -⟩ := hD.2.2.2.2 i hin
    show ∃ X', fX5_init_L95b fu (fX5_init_L95 fu (m + t + 1)) X pr d (nI i) = some X' ∧ _
    unfold fX5_init_L95b
    rw [if_pos k1, r1, bi_some, alen_of k2 (by decide), bi_some, if_neg (fun q => by have := (nI_leI (by omega) (by omega)).mp q; omega), if_pos hD.1, d_dOrder hD hn hin, bi_some, bi_some, if_pos (inb_of (t := 3) k2 hin (by omega)), bi_some, if_pos o2, nI_clamp (by omega), nI_1]
    have fr : Fm (fun b => b = os) X (sR X os i (some (oa i))) := Fm.sR rfl
    have hD1 := hD.fm hf fr (fun q => kne1 hD.1 k2 (by decide) q) (fun q => w4 q.symm) (fun j hj q => kne1 (hD.2.2.2.2 j hj).2.1 k2 (by decide) q)
    obtain ⟨X', z1, z2, z3⟩ := ih (i + 1) m (sR X os i (some (oa i))) (by omega) (hf.cg rfl rfl) hD1 k1 r1 r2 k2 k3 r3 k4 r4 k5 hw (fun j hj => by
      show (if os = os ∧ j = i then some (oa i) else aR X os j) = some (oa j)
      by_cases e : j = i
      · rw [if_pos ⟨rfl, e⟩, e]
      · rw [if_neg (fun q => e q.2)]
        exact ho j (by omega))
    exact ⟨X', z1, (fr.mono (fun b _ q => Or.inl q)).trans z2, z3⟩
theorem d_init68 {fu : Nat} {P : Mem → Mem → Prop} (hfu : 200 ≤ fu) : ∀ (t i m : Nat) (X : Mem), i + t = 4 → mK X pr = some (5, 0) → mR X 503 pr = some wa → mK X wa = some (20, 4) → (∀ j, j < i → aI X wa j = -1) → (∀ X1, AFr wa X X1 → (∀ j, j < 4 → aI X1 wa j = -1) → ∃ X', fX5_init_L95 fu fu X1 pr d (nI 0) = some X' ∧ P X1 X') →
    ∃ X1 X', fX5_init_L68 fu (m + t + 1) X pr d (nI i) = some X' ∧ AFr wa X X1 ∧ P X1 X' := by
  intro t
  induction t with
  | zero =>
    intro i m X hi h1 h2 h3 h4 h5
    have hi : i = 4 := hi
    subst hi
    obtain ⟨X', z1, z2⟩ := h5 X AFr.rfl9 h4
    refine ⟨X, X', ?_, AFr.rfl9, z2⟩
    show fX5_init_L68b fu (fX5_init_L68 fu m) X pr d (nI 4) = _
    unfold fX5_init_L68b
    rw [if_pos h1, h2, bi_some, alen_of h3 (by decide), bi_some, if_pos (Int32.le_refl _)]
    exact z1
  | succ t ih =>
    intro i m X hi h1 h2 h3 h4 h5
    show ∃ X1 X', fX5_init_L68b fu (fX5_init_L68 fu (m + t + 1)) X pr d (nI i) = some X' ∧ _
    unfold fX5_init_L68b
    rw [if_pos h1, h2, bi_some, alen_of h3 (by decide), bi_some, if_neg (fun q => by have := (nI_leI (by omega) (by omega)).mp q; omega), bi_some, if_pos (inb_of (t := 0) h3 (by omega : i < 4) (by omega)), nI_clamp (by omega), nI_1]
    have fr : AFr wa X (sI X wa i (-1)) := AFr.sI
    obtain ⟨X1, X', z1, z2, z3⟩ := ih (i + 1) m (sI X wa i (-1)) (by omega) h1 h2 h3 (fun j hj => by
      rw [aI_sI]
      by_cases e : j = i
      · rw [if_pos ⟨rfl, e⟩]
      · rw [if_neg (fun q => e q.2)]
        exact h4 j (by omega)) (fun X1 a b => h5 X1 (fr.trans a) b)
    exact ⟨X1, X', z1, fr.trans z2, z3⟩
theorem d_init {fu : Nat} {X : Mem} {pu : Int32} (hP : VP K T V N n) (hn0 : 0 < n) (hfu : 300 ≤ fu) (hf : FreshM X) (h1 : mK X pr = some (5, 0)) (hD : DG d dO oa K T V N n X) (hi : ∀ k, mI X k pr = 0) :
    ∃ os pa wa fo dr ra ua X', fX5_init fu X pr pu (some d) = some X' ∧ Fm (fun b => b = pr) X X' ∧ FreshM X' ∧ PgA pr os pa wa fo dr ra ua oa K T V N n X' ∧ mI X' 500 pr = pu ∧ mI X' 202 dr = 0 ∧ (∀ j, j < 16 → aI X' ra j = 0) ∧ (∀ j, j < 16 → aI X' ua j = 0) ∧ mZ X ≤ os ∧ mZ X ≤ pa ∧ mZ X ≤ wa ∧ mZ X ≤ fo ∧ mZ X ≤ dr ∧ mZ X ≤ ra ∧ mZ X ≤ ua ∧ ra ≠ ua ∧ ra ≠ pa ∧ ra ≠ wa ∧ ua ≠ pa ∧ ua ≠ wa ∧ pa ≠ wa ∧ fo ≠ ra ∧ fo ≠ ua := by
  have hn := hP.1
  have hl := hf.lt h1
  have hs : (0 : Int32) ≤ nI n ∧ (nI n).toNatClampNeg ≤ 32 := ⟨nI_pos' (by omega), by rw [nI_clamp (by omega)]; omega⟩
  have ecl : (nI n).toNatClampNeg = n := nI_clamp (by omega)
  have hs2 : (0 : Int32) ≤ nI n ∧ n ≤ 32 := ⟨nI_pos' (by omega), by omega⟩
  have hgo : fX5_init fu X pr pu (some d) = fX5_init_L19 fu X pr pu d (nI n) := by
    unfold fX5_init fX1_length
    rw [bi_some, if_pos hD.1, if_pos hD.1, bi_some, hD.2.2.2.1, if_neg (nI_nle hn0 (by omega)), bi_some]
  rw [hgo]
  unfold fX5_init_L19
  have f0 : Fm (fun b => b = pr) X (wI X 500 pr pu) := Fm.wI (Or.inl rfl)
  have hf0 : FreshM (wI X 500 pr pu) := hf.cg rfl rfl
  have u0 : mK (wI X 500 pr pu) pr = some (5, 0) := h1
  have z0 : mZ (wI X 500 pr pu) = mZ X := rfl
  have p0 : mI (wI X 500 pr pu) 500 pr = pu := if_pos ⟨rfl, rfl⟩
  rw [if_pos h1, if_pos hs, bi_some, bi_some, ecl]
  generalize wI X 500 pr pu = Y0 at f0 hf0 u0 z0 p0 ⊢
  rw [if_pos (kA u0 (by omega)), if_pos hs2, bi_some, bi_some]
  have s1 : Al 501 pr 3 n Y0 (wR (nA Y0 3 n) 501 pr (some (mZ Y0))) := al_of
  generalize wR (nA Y0 3 n) 501 pr (some (mZ Y0)) = Y1 at s1 ⊢
  obtain ⟨a1, a2, a3, a4, a5, a6, a7, a8, a9, a10⟩ := s1
  have u1 : mK Y1 pr = some (5, 0) := (a2 pr (by omega)).trans u0
  rw [if_pos (kA u1 (by omega)), if_pos hs2, bi_some, bi_some]
  have s2 : Al 502 pr 0 n Y1 (wR (nA Y1 0 n) 502 pr (some (mZ Y1))) := al_of
  generalize wR (nA Y1 0 n) 502 pr (some (mZ Y1)) = Y2 at s2 ⊢
  obtain ⟨b1, b2, b3, b4, b5, b6, b7, b8, b9, b10⟩ := s2
  have u2 : mK Y2 pr = some (5, 0) := (b2 pr (by omega)).trans u1
  rw [if_pos (kA u2 (by omega)), bi_some, bi_some]
  have s3 : Al 504 pr 0 n Y2 (wR (nA Y2 0 n) 504 pr (some (mZ Y2))) := al_of
  generalize wR (nA Y2 0 n) 504 pr (some (mZ Y2)) = Y3 at s3 ⊢
  obtain ⟨c1, c2, c3, c4, c5, c6, c7, c8, c9, c10⟩ := s3
  have u3 : mK Y3 pr = some (5, 0) := (c2 pr (by omega)).trans u2
  rw [if_pos (kA u3 (by omega)), bi_some, bi_some]
  have s4 : Al 503 pr 0 4 Y3 (wR (nA Y3 0 4) 503 pr (some (mZ Y3))) := al_of
  generalize wR (nA Y3 0 4) 503 pr (some (mZ Y3)) = Y4 at s4 ⊢
  obtain ⟨d1, d2, d3, d4, d5, d6, d7, d8, d9, d10⟩ := s4
  have u4 : mK Y4 pr = some (5, 0) := (d2 pr (by omega)).trans u3
  have e1 : mK (nO Y4 2) (mZ Y4) = some (2, 0) := if_pos rfl
  have e2 : ∀ b, b ≠ mZ Y4 → mK (nO Y4 2) b = mK Y4 b := fun b hb => if_neg hb
  have e3 : ∀ k b, b ≠ mZ Y4 → mR (nO Y4 2) k b = mR Y4 k b := fun k b hb => if_neg hb
  have e4 : ∀ k, mI (nO Y4 2) k (mZ Y4) = 0 := fun k => if_pos rfl
  have e5 : ∀ k b, b ≠ mZ Y4 → mI (nO Y4 2) k b = mI Y4 k b := fun k b hb => if_neg hb
  have e6 : mZ (nO Y4 2) = mZ Y4 + 1 := rfl
  have e7 : FreshM (nO Y4 2) := (d9 (c9 (b9 (a9 hf0)))).nO
  have e8 : Fm (fun b => b = pr) Y4 (nO Y4 2) := Fm.nO
  generalize nO Y4 2 = Y5 at e1 e2 e3 e4 e5 e6 e7 e8 ⊢
  obtain ⟨Y6, Y7, g0, s6, s7⟩ := d_drw e7 e1
  obtain ⟨h1', h2, h3, h4, h5, h6, h7, h8, h9, h10⟩ := s6
  obtain ⟨i1, i2, i3, i4, i5, i6, i7, i8, i9, i10⟩ := s7
  have u5 : mK Y5 pr = some (5, 0) := (e2 pr (by omega)).trans u4
  have u7 : mK Y7 pr = some (5, 0) := (i2 pr (by omega)).trans ((h2 pr (by omega)).trans u5)
  rw [g0, bi_some, if_pos u7]
  have m0 : ∀ k b, mR (wR Y7 505 pr (some (mZ Y4))) k b = if k = 505 ∧ b = pr then some (mZ Y4) else mR Y7 k b := fun k b => (Eq.refl _).trans (Eq.refl _)
  have m1 : ∀ b, mK (wR Y7 505 pr (some (mZ Y4))) b = mK Y7 b := fun b => rfl
  have m2 : ∀ k b, mI (wR Y7 505 pr (some (mZ Y4))) k b = mI Y7 k b := fun k b => rfl
  have m3 : ∀ b j, aI (wR Y7 505 pr (some (mZ Y4))) b j = aI Y7 b j := fun b j => rfl
  have m4 : Fm (fun b => b = pr) Y7 (wR Y7 505 pr (some (mZ Y4))) := Fm.wR rfl
  have m5 : FreshM (wR Y7 505 pr (some (mZ Y4))) := (i9 (h9 e7)).cg rfl rfl
  generalize wR Y7 505 pr (some (mZ Y4)) = Y8 at m0 m1 m2 m3 m4 m5 ⊢
  have f5 : Fm (fun b => b = pr) X Y5 := ((((f0.trans a10).trans b10).trans c10).trans d10).trans e8
  have f8 : Fm (fun b => b = pr) X Y8 := ((((f5.mono (fun b _ q => Or.inl q)).trans (h10.mono (fun b _ q => Or.inr q))).trans (i10.mono (fun b _ q => Or.inr q))).trans (m4.mono (fun b _ q => Or.inl q))).mono (P := fun b => b = pr ∨ b = mZ Y4) (fun b hb q => q.elim id (fun q => by omega))
  have Kos : mK Y8 (mZ Y0) = some (23, n) := by rw [m1, i2 _ (by omega), h2 _ (by omega), e2 _ (by omega), d2 _ (by omega), c2 _ (by omega), b2 _ (by omega)]; exact a1
  have Kpa : mK Y8 (mZ Y1) = some (20, n) := by rw [m1, i2 _ (by omega), h2 _ (by omega), e2 _ (by omega), d2 _ (by omega), c2 _ (by omega)]; exact b1
  have Kfo : mK Y8 (mZ Y2) = some (20, n) := by rw [m1, i2 _ (by omega), h2 _ (by omega), e2 _ (by omega), d2 _ (by omega)]; exact c1
  have Kwa : mK Y8 (mZ Y3) = some (20, 4) := by rw [m1, i2 _ (by omega), h2 _ (by omega), e2 _ (by omega)]; exact d1
  have Kdr : mK Y8 (mZ Y4) = some (2, 0) := by rw [m1, i2 _ (by omega), h2 _ (by omega)]; exact e1
  have Kra : mK Y8 (mZ Y5) = some (20, 16) := by rw [m1, i2 _ (by omega)]; exact h1'
  have Kua : mK Y8 (mZ Y6) = some (20, 16) := by rw [m1]; exact i1
  have Kpr : mK Y8 pr = some (5, 0) := by rw [m1]; exact u7
  have R501 : mR Y8 501 pr = some (mZ Y0) := by rw [m0, if_neg (by omega), i4 _ _ (Or.inl (by omega)), h4 _ _ (Or.inl (by omega)), e3 _ _ (by omega), d4 _ _ (Or.inl (by omega)), c4 _ _ (Or.inl (by omega)), b4 _ _ (Or.inl (by omega))]; exact a3
  have R502 : mR Y8 502 pr = some (mZ Y1) := by rw [m0, if_neg (by omega), i4 _ _ (Or.inl (by omega)), h4 _ _ (Or.inl (by omega)), e3 _ _ (by omega), d4 _ _ (Or.inl (by omega)), c4 _ _ (Or.inl (by omega))]; exact b3
  have R504 : mR Y8 504 pr = some (mZ Y2) := by rw [m0, if_neg (by omega), i4 _ _ (Or.inl (by omega)), h4 _ _ (Or.inl (by omega)), e3 _ _ (by omega), d4 _ _ (Or.inl (by omega))]; exact c3
  have R503 : mR Y8 503 pr = some (mZ Y3) := by rw [m0, if_neg (by omega), i4 _ _ (Or.inl (by omega)), h4 _ _ (Or.inl (by omega)), e3 _ _ (by omega)]; exact d3
  have R505 : mR Y8 505 pr = some (mZ Y4) := by rw [m0, if_pos ⟨rfl, rfl⟩]
  have R200 : mR Y8 200 (mZ Y4) = some (mZ Y5) := by rw [m0, if_neg (by omega), i4 _ _ (Or.inl (by omega))]; exact h3
  have R201 : mR Y8 201 (mZ Y4) = some (mZ Y6) := by rw [m0, if_neg (by omega)]; exact i3
  have I500 : mI Y8 500 pr = pu := by rw [m2, i5, h5, e5 _ _ (by omega), d5, c5, b5, a5]; exact p0
  have I202 : mI Y8 202 (mZ Y4) = 0 := by rw [m2, i5, h5]; exact e4 202
  have Ara : ∀ j, aI Y8 (mZ Y5) j = 0 := fun j => by rw [m3, i7 _ _ (by omega)]; exact h6 j
  have Aua : ∀ j, aI Y8 (mZ Y6) j = 0 := fun j => by rw [m3]; exact i6 j
  have nd : ∀ {b : Nat} {k : Nat × Nat}, mK X b = some k → k ≠ (5, 0) → ¬ b = pr := fun h9 hk q => kne h9 h1 hk q
  have hD8 := hD.fm hf f8 (nd hD.1 (by decide)) (nd hD.2.2.1 (by decide)) (fun i hi => nd (hD.2.2.2.2 i hi).2.1 (by decide))
  have lt : ∀ {b : Nat} {k : Nat × Nat}, mK X b = some k → b < mZ X := fun h9 => hf.lt h9
  have ldO := lt hD.2.2.1
  have ld := lt hD.1
  obtain ⟨X1, X', q1, q2, q3, q4, q5, q6, q7, q8⟩ := d_init68 (fu := fu) (pr := pr) (wa := mZ Y3) (d := d) (P := fun X1 X' => Fm (fun b => b = mZ Y0 ∨ b = mZ Y1 ∨ b = mZ Y3 ∨ b = mZ Y2) X1 X' ∧ FreshM X' ∧ PG pr (mZ Y0) (mZ Y1) oa K T V N n X' ∧ (∀ o, o < n → (K o = 5 ∨ K o = 6) → aI X' (mZ Y1) o = nI (clG K n o) ∧ aI X' (mZ Y1) (clG K n o) = nI o) ∧ (∀ t, t < 4 → aI X' (mZ Y3) t = oW (wsF K T n (nI t))) ∧ ∀ j, j < n → aI X' (mZ Y2) j = cdC K T V N j) (by omega) 4 0 (fu - 5) Y8 rfl Kpr R503 Kwa (fun j hj => absurd hj (Nat.not_lt_zero j)) (fun X1 fr hw => by
    have nw : ∀ {b : Nat} {k : Nat × Nat}, mK Y8 b = some k → k ≠ (20, 4) → ¬ b = mZ Y3 := fun h9 hk q => kne h9 Kwa hk q
    have hD9 := hD8.fm m5 fr.nfr.fm (nw hD8.1 (by decide)) (nw hD8.2.2.1 (by decide)) (fun i hi => nw (hD8.2.2.2.2 i hi).2.1 (by decide))
    have k := d_init95 (fu := fu) (pr := pr) (os := mZ Y0) (pa := mZ Y1) (wa := mZ Y3) (fo := mZ Y2) hP (by omega) (by omega) (by omega) (by omega) (by omega) n 0 (fu - n - 1) X1 (by omega) (m5.cg fr.1 fr.2.2.2.2.2.1) hD9 (by rw [fr.1]; exact Kpr) (by rw [fr.2.2.1]; exact R501) (by rw [fr.2.2.1]; exact R502) (by rw [fr.1]; exact Kos) (by rw [fr.1]; exact Kpa) (by rw [fr.2.2.1]; exact R503) (by rw [fr.1]; exact Kwa) (by rw [fr.2.2.1]; exact R504) (by rw [fr.1]; exact Kfo) hw (fun j hj => absurd hj (Nat.not_lt_zero j))
    rw [show fu - n - 1 + n + 1 = fu by omega] at k
    exact k)
  rw [show fu - 5 + 4 + 1 = fu by omega] at q1
  have F1 : FreshM X1 := m5.cg q2.1 q2.2.2.2.2.2.1
  have np : ∀ b, b < mZ Y0 ∨ mZ Y3 < b → ¬ (b = mZ Y0 ∨ b = mZ Y1 ∨ b = mZ Y3 ∨ b = mZ Y2) := fun b h9 q => by omega
  have kk : ∀ {b : Nat} {k : Nat × Nat}, mK Y8 b = some k → mK X1 b = some k := fun h9 => by rw [q2.1]; exact h9
  have rr : ∀ {i b c : Nat} {k : Nat × Nat}, mK Y8 b = some k → mR Y8 i b = some c → (b < mZ Y0 ∨ mZ Y3 < b) → mR X' i b = some c := fun h9 h8 h7 => by rw [q3.r F1 (kk h9) (np _ h7), q2.2.2.1]; exact h8
  have ii : ∀ {i b : Nat} {v : Int32} {k : Nat × Nat}, mK Y8 b = some k → mI Y8 i b = v → (i < 700 ∨ 900 ≤ i) → (b < mZ Y0 ∨ mZ Y3 < b) → mI X' i b = v := fun h9 h8 h6 h7 => by rw [q3.i F1 (kk h9) (np _ h7) h6, q2.2.1]; exact h8
  refine ⟨mZ Y0, mZ Y1, mZ Y3, mZ Y2, mZ Y4, mZ Y5, mZ Y6, X', q1, ?_, q4, ⟨q5, rr Kpr R503 (Or.inl (by omega)), q3.k F1 (kk Kwa), rr Kpr R504 (Or.inl (by omega)), q3.k F1 (kk Kfo), rr Kpr R505 (Or.inl (by omega)), q3.k F1 (kk Kdr), rr Kdr R200 (Or.inr (by omega)), q3.k F1 (kk Kra), rr Kdr R201 (Or.inr (by omega)), q3.k F1 (kk Kua), q6, q7, q8⟩, ii Kpr I500 (by omega) (Or.inl (by omega)), ii Kdr I202 (by omega) (Or.inr (by omega)), fun j _ => ?_, fun j _ => ?_, by omega, by omega, by omega, by omega, by omega, by omega, by omega, by omega, by omega, by omega, by omega, by omega, by omega, by omega, by omega⟩
  · refine (((f8.mono (fun b _ q => Or.inl q)).trans (q2.nfr.fm.mono (fun b _ q => Or.inr (Or.inr (Or.inr (Or.inl q)))))).trans (q3.mono (fun b _ q => Or.inr q))).mono (P := fun b => b = pr ∨ b = mZ Y0 ∨ b = mZ Y1 ∨ b = mZ Y3 ∨ b = mZ Y2) (fun b hb q => q.elim id (fun q => by omega))
  · rw [q3.ai F1 (kk Kra) (np _ (Or.inr (by omega))), q2.2.2.2.2.2.2 _ (by omega)]
    exact Ara j
  · rw [q3.ai F1 (kk Kua) (np _ (Or.inr (by omega))), q2.2.2.2.2.2.2 _ (by omega)]
    exact Aua j
end INI
