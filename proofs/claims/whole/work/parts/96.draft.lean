/-! THE DRAFT: an order comes to it -/
theorem br_cg {K K' : Nat → Int32} : ∀ i, (∀ j, j < i → K j = K' j) → br K i = br K' i := by
  intro i
  induction i with
  | zero => intro _; rfl
  | succ i ih =>
    intro h
    have e := ih (fun j hj => h j (by omega))
    have ek := h i (by omega)
    show (if K i = 5 ∨ K i = 6 then i :: br K i else if K i = 8 then (br K i).tail else br K i) = (if K' i = 5 ∨ K' i = 6 then i :: br K' i else if K' i = 8 then (br K' i).tail else br K' i)
    rw [e, ek]
theorem br_upN {K : Nat → Int32} {n : Nat} {k : Int32} {i : Nat} (h : i ≤ n) : br (upN K n k) i = br K i := br_cg i (fun j hj => upN_o (by omega))
/-- how many blocks are open behind a further order -/
def opn (b : Nat) (k : Int32) : Nat := if k = 5 ∨ k = 6 then b + 1 else if k = 8 then b - 1 else b
theorem br_opn {K : Nat → Int32} {n : Nat} {k : Int32} : (br (upN K n k) (n + 1)).length = opn (br K n).length k := by
  unfold opn
  have e : br (upN K n k) n = br K n := br_upN (Nat.le_refl n)
  have ek : upN K n k n = k := upN_s
  show (if upN K n k n = 5 ∨ upN K n k n = 6 then n :: br (upN K n k) n else if upN K n k n = 8 then (br (upN K n k) n).tail else br (upN K n k) n).length = _
  rw [e, ek]
  by_cases h1 : k = 5 ∨ k = 6
  · rw [if_pos h1, if_pos h1, List.length_cons]
  · rw [if_neg h1, if_neg h1]
    by_cases h2 : k = 8
    · rw [if_pos h2, if_pos h2, List.length_tail]
    · rw [if_neg h2, if_neg h2]
theorem WdP_up {K T : Nat → Int32} {n : Nat} {k t : Int32} {w : Nat} : WdP (upN K n k) (upN T n t) (n + 1) w ↔ WdP K T n w ∨ (k = 6 ∧ t = nI w) := by
  constructor
  · rintro ⟨i, hi, h1, h2⟩
    by_cases e : i = n
    · rw [e, upN_s] at h1 h2
      exact Or.inr ⟨h1, h2⟩
    · rw [upN_o e] at h1 h2
      exact Or.inl ⟨i, by omega, h1, h2⟩
  · rintro (⟨i, hi, h1, h2⟩ | ⟨h1, h2⟩)
    · exact ⟨i, by omega, by rw [upN_o (by omega)]; exact h1, by rw [upN_o (by omega)]; exact h2⟩
    · exact ⟨n, by omega, by rw [upN_s]; exact h1, by rw [upN_s]; exact h2⟩
/-- what may come to a draft -/
def AddP (K T : Nat → Int32) (n : Nat) (k t v nn : Int32) : Prop := n < 30 ∧ (0 ≤ k ∧ k ≤ 8) ∧ (0 ≤ t ∧ t ≤ 3) ∧ ((nn = 0 ∧ -99 ≤ v ∧ v ≤ 99) ∨ (nn = 1 ∧ 0 ≤ v ∧ v ≤ 3)) ∧ (k = 8 → br K n ≠ []) ∧ (k = 6 → br K n = [] ∧ ∀ i, i < n → K i = 6 → T i ≠ t)
theorem DrfP.add {K T V N : Nat → Int32} {n : Nat} {k t v nn : Int32} (h : DrfP K T V N n) (a : AddP K T n k t v nn) : DrfP (upN K n k) (upN T n t) (upN V n v) (upN N n nn) (n + 1) := by
  obtain ⟨h1, h2, h3, h4, h5, h6⟩ := h
  obtain ⟨a1, a2, a3, a4, a5, a6⟩ := a
  refine ⟨by omega, fun i hi => ?_, fun i hi => ?_, fun i hi => ?_, fun i hi => ?_, fun i j hi hj k1 k2 k3 => ?_⟩
  · by_cases e : i = n
    · subst e
      rw [upN_s, br_upN (Nat.le_refl i)]
      exact ⟨a5, fun q => (a6 q).1⟩
    · rw [upN_o e, br_upN (by omega)]
      exact h2 i (by omega)
  · by_cases e : i = n
    · rw [e, upN_s]; exact a2
    · rw [upN_o e]; exact h3 i (by omega)
  · by_cases e : i = n
    · rw [e, upN_s]; exact a3
    · rw [upN_o e]; exact h4 i (by omega)
  · by_cases e : i = n
    · rw [e, upN_s, upN_s]; exact a4
    · rw [upN_o e, upN_o e]; exact h5 i (by omega)
  · by_cases ei : i = n
    · by_cases ej : j = n
      · omega
      · rw [ei, upN_s] at k1 k3
        rw [upN_o ej] at k2 k3
        exact absurd k3.symm ((a6 k1).2 j (by omega) k2)
    · by_cases ej : j = n
      · rw [ej, upN_s] at k2 k3
        rw [upN_o ei] at k1 k3
        exact absurd k3 ((a6 k2).2 i (by omega) k1)
      · rw [upN_o ei] at k1 k3
        rw [upN_o ej] at k2 k3
        exact h6 i j (by omega) (by omega) k1 k2 k3
theorem opn_n {b : Nat} {k : Int32} (h : k = 8 → 0 < b) : (if k = 5 ∨ k = 6 then nI b + 1 else if k = 8 then nI b - 1 else nI b) = nI (opn b k) := by
  unfold opn
  by_cases h1 : k = 5 ∨ k = 6
  · rw [if_pos h1, if_pos h1, nI_1]
  · rw [if_neg h1, if_neg h1]
    by_cases h2 : k = 8
    · rw [if_pos h2, if_pos h2]
      obtain ⟨c, rfl⟩ : ∃ c, b = c + 1 := ⟨b - 1, by have := h h2; omega⟩
      rw [nI_pred, Nat.add_sub_cancel]
    · rw [if_neg h2, if_neg h2]
theorem x_append {Y : Mem} {d dO o tl n b tj : Nat} {k : Int32} (h1 : mK Y d = some (1, 0)) (h2 : mR Y 100 d = some dO) (h3 : mK Y dO = some (23, 30)) (h4 : mI Y 102 d = nI n) (hn : n < 30) (h5 : mK Y o = some (4, 0)) (h6 : mI Y 400 o = k) (h7 : mI Y 401 o = nI tj) (ht : tj < 4) (h8 : mI Y 103 d = nI b) (h9 : mR Y 101 d = some tl) (h10 : mK Y tl = some (21, 4)) (hb : k = 8 → 0 < b) :
    ∃ Y', fX1_append Y d (some o) = some Y' ∧ mK Y' = mK Y ∧ mR Y' = mR Y ∧ mZ Y' = mZ Y ∧ Fm (fun a => a = d ∨ a = dO ∨ a = tl) Y Y' ∧ (∀ i a, mI Y' i a = if i = 102 ∧ a = d then nI (n + 1) else if i = 103 ∧ a = d then nI (opn b k) else mI Y i a) ∧ (∀ a j, aR Y' a j = if a = dO ∧ j = n then some o else aR Y a j) ∧ ∀ a j, aI Y' a j = if k = 6 ∧ a = tl ∧ j = tj then 1 else aI Y a j := by
  have od : o ≠ d := kne1 h5 h1 (by decide)
  -- the last part: a word is told
  have l79 : ∀ Z : Mem, mK Z = mK Y → mR Z = mR Y → mI Z 400 o = k → mI Z 401 o = nI tj → ∃ Y', fX1_append_L79 Z d o = some Y' ∧ mK Y' = mK Z ∧ mR Y' = mR Z ∧ mZ Y' = mZ Z ∧ mI Y' = mI Z ∧ aR Y' = aR Z ∧ Fm (fun a => a = d ∨ a = dO ∨ a = tl) Z Y' ∧ ∀ a j, aI Y' a j = if k = 6 ∧ a = tl ∧ j = tj then 1 else aI Z a j := by
    intro Z z1 z2 z3 z4
    unfold fX1_append_L79
    rw [if_pos (show mK Z o = some (4, 0) by rw [z1]; exact h5), z3]
    by_cases e : k = 6
    · have k10 : mK Z tl = some (21, 4) := by rw [z1]; exact h10
      rw [if_pos e, z4, if_neg (nI_pos (by omega)), if_pos (show mK Z d = some (1, 0) by rw [z1]; exact h1), z2, h9, bi_some, alen_of k10 (by decide), bi_some, if_neg (fun q => by have := (nI_leI (by omega) (by omega)).mp q; omega), bi_some, if_pos (inb_of (t := 1) k10 ht (by omega)), nI_clamp (by omega)]
      refine ⟨_, rfl, rfl, z2, rfl, rfl, rfl, Fm.sI (Or.inr (Or.inr rfl)), fun a j => ?_⟩
      rw [aI_sI]
      by_cases e2 : a = tl ∧ j = tj
      · rw [if_pos e2, if_pos ⟨e, e2⟩]
      · rw [if_neg e2, if_neg (fun z => e2 z.2)]
    · rw [if_neg e]
      exact ⟨Z, rfl, rfl, rfl, rfl, rfl, rfl, Fm.rfl9, fun a j => by rw [if_neg (fun z => e z.1)]⟩
  have f2 : Fm (fun a => a = d ∨ a = dO ∨ a = tl) Y (wI (sR Y dO n (some o)) 102 d (nI (n + 1))) := Fm.trans (P := fun a => a = d ∨ a = dO ∨ a = tl) (Fm.sR (Or.inr (Or.inl rfl))) (Fm.wI (Or.inl (Or.inl rfl)))
  have q1 : mK (wI (sR Y dO n (some o)) 102 d (nI (n + 1))) = mK Y := rfl
  have q2 : mR (wI (sR Y dO n (some o)) 102 d (nI (n + 1))) = mR Y := rfl
  have q3 : mZ (wI (sR Y dO n (some o)) 102 d (nI (n + 1))) = mZ Y := rfl
  have q4 : ∀ i a, mI (wI (sR Y dO n (some o)) 102 d (nI (n + 1))) i a = if i = 102 ∧ a = d then nI (n + 1) else mI Y i a := fun i a => by rw [mI_wI, mI_sR]
  have q5 : ∀ a j, aR (wI (sR Y dO n (some o)) 102 d (nI (n + 1))) a j = if a = dO ∧ j = n then some o else aR Y a j := fun a j => by rw [aR_wIx, aR_sR]
  have q6 : ∀ a j, aI (wI (sR Y dO n (some o)) 102 d (nI (n + 1))) a j = aI Y a j := fun a j => rfl
  have q7 : mI (sR Y dO n (some o)) 102 d = nI n := h4
  unfold fX1_append
  rw [if_pos h1, h4, if_neg (nI_pos (by omega)), h2, bi_some, alen_of h3 (by decide), bi_some, if_pos ((nI_ltI (by omega) (by omega)).mpr hn), bi_some, if_pos (inb_of (t := 3) h3 hn (by omega)), bi_some, if_pos h5, nI_clamp (by omega), q7, nI_1]
  generalize wI (sR Y dO n (some o)) 102 d (nI (n + 1)) = Z at f2 q1 q2 q3 q4 q5 q6 ⊢
  have z400 : mI Z 400 o = k := by rw [q4, if_neg (by omega)]; exact h6
  have z401 : mI Z 401 o = nI tj := by rw [q4, if_neg (by omega)]; exact h7
  have z103 : mI Z 103 d = nI b := by rw [q4, if_neg (by omega)]; exact h8
  have zo : fX4_opensBlock Z o = some (if k = 5 ∨ k = 6 then 1 else 0) := by
    unfold fX4_opensBlock
    rw [if_pos (show mK Z o = some (4, 0) by rw [q1]; exact h5), z400]
    by_cases e5 : k = 5
    · rw [if_pos e5, if_pos (Or.inl e5)]
    · rw [if_neg e5]
      by_cases e6 : k = 6
      · rw [if_pos e6, if_pos (Or.inr e6)]
      · rw [if_neg e6, if_neg (fun z => z.elim e5 e6)]
  have fin : ∀ Z' : Mem, mK Z' = mK Z → mR Z' = mR Z → mZ Z' = mZ Z → aR Z' = aR Z → aI Z' = aI Z → Fm (fun a => a = d ∨ a = dO ∨ a = tl) Z Z' → (∀ i a, mI Z' i a = if i = 103 ∧ a = d then nI (opn b k) else mI Z i a) → ∃ Y', fX1_append_L79 Z' d o = some Y' ∧ mK Y' = mK Y ∧ mR Y' = mR Y ∧ mZ Y' = mZ Y ∧ Fm (fun a => a = d ∨ a = dO ∨ a = tl) Y Y' ∧ (∀ i a, mI Y' i a = if i = 102 ∧ a = d then nI (n + 1) else if i = 103 ∧ a = d then nI (opn b k) else mI Y i a) ∧ (∀ a j, aR Y' a j = if a = dO ∧ j = n then some o else aR Y a j) ∧ ∀ a j, aI Y' a j = if k = 6 ∧ a = tl ∧ j = tj then 1 else aI Y a j := by
    intro Z' r1 r2 r3 r4 r5 r6 r7
    obtain ⟨Y', s1, s2, s3, s4, s5, s6, s7, s8⟩ := l79 Z' (r1.trans q1) (r2.trans q2) (by rw [r7, if_neg (by omega)]; exact z400) (by rw [r7, if_neg (by omega)]; exact z401)
    refine ⟨Y', s1, s2.trans (r1.trans q1), s3.trans (r2.trans q2), s4.trans (r3.trans q3), (f2.trans r6).trans s7, fun i a => ?_, fun a j => by rw [s6, r4, q5], fun a j => by rw [s8, r5, q6]⟩
    rw [s5, r7, q4]
    by_cases e : i = 102 ∧ a = d
    · rw [if_pos e, if_neg (by omega), if_pos e]
    · rw [if_neg e, if_neg e]
  rw [zo, bi_some]
  by_cases e1 : k = 5 ∨ k = 6
  · rw [if_pos e1, if_neg n10, z103]
    refine fin _ rfl rfl rfl rfl rfl (Fm.wI (Or.inl (Or.inl rfl))) (fun i a => ?_)
    rw [mI_wI, nI_1]
    unfold opn
    rw [if_pos e1]
  · rw [if_neg e1, if_pos rfl, z400]
    by_cases e8 : k = 8
    · rw [if_pos e8, z103]
      refine fin _ rfl rfl rfl rfl rfl (Fm.wI (Or.inl (Or.inl rfl))) (fun i a => ?_)
      obtain ⟨c, hc⟩ : ∃ c, b = c + 1 := ⟨b - 1, by have := hb e8; omega⟩
      rw [mI_wI]
      unfold opn
      rw [if_neg e1, if_pos e8, hc, nI_pred, Nat.add_sub_cancel]
    · rw [if_neg e8]
      refine fin Z rfl rfl rfl rfl rfl Fm.rfl9 (fun i a => ?_)
      unfold opn
      rw [if_neg e1, if_neg e8]
      by_cases e : i = 103 ∧ a = d
      · rw [if_pos e, e.1, e.2, z103]
      · rw [if_neg e]
section ADD
variable {A ro pa ea wa : Nat → Nat} {K T V N : Nat → Int32} {n : Nat} {X : Mem}
theorem x_full (B : BaseX A ro X) (D : DrfX A ro K T V N n X) (h : n = 30) (k t v nn : Int32) : fX11_addOrder X (A 0) k t v nn = some (.inl "java/lang/IllegalStateException") := by
  obtain ⟨oa, d1, d2⟩ := D
  unfold fX11_addOrder fX1_length
  rw [if_pos (B.k 0 11 0 (by decide)), B.r 1100 0 1 (by decide), bi_some, if_pos d1.1, if_pos d1.1, bi_some, d1.2.2.2.1, h, if_neg (show ¬ nI 30 < 30 by decide)]
theorem x_add {k t v nn : Int32} (B : BaseX A ro X) (D : DrfX A ro K T V N n X) (hF : FreshM X) (a : AddP K T n k t v nn) :
    ∃ X', fX11_addOrder X (A 0) k t v nn = some (.inr (nI (n + 1), X')) ∧ Fm (fun b => b = A 1 ∨ b = A 9 ∨ b = A 10) X X' ∧ RfK X X' ∧ DrfX A (fun a => if a < mZ X then ro a else 50) (upN K n k) (upN T n t) (upN V n v) (upN N n nn) (n + 1) X' := by
  obtain ⟨oa, d1, d2, d3, d4⟩ := D
  obtain ⟨a1, a2, a3, a4, a5, a6⟩ := a
  obtain ⟨tj, htj, rfl⟩ := t_lt4 a3.1 a3.2
  have hx := B.k 0 11 0 (by decide)
  have k10 := B.k 10 21 4 (by decide)
  have l0 := hF.lt hx
  have l1 := hF.lt d1.1
  have l9 := hF.lt d1.2.2.1
  have l10 := hF.lt k10
  have hnn : nn = 0 ∨ nn = 1 := a4.elim (fun z => Or.inl z.1) (fun z => Or.inr z.1)
  have i1 : fX4_init (nO X 4) (mZ X) k (nI tj) v nn = some (wI (wI (wI (wI (nO X 4) 400 (mZ X) k) 401 (mZ X) (nI tj)) 402 (mZ X) v) 403 (mZ X) nn) := by
    unfold fX4_init
    rw [if_pos mK_nO0, if_pos hnn]
  have f0 : Fm (fun _ => False) X (wI (wI (wI (wI (nO X 4) 400 (mZ X) k) 401 (mZ X) (nI tj)) 402 (mZ X) v) 403 (mZ X) nn) := (((((Fm.nO (P := fun b => b = mZ X)).trans (Fm.wI (Or.inl rfl))).trans (Fm.wI (Or.inl rfl))).trans (Fm.wI (Or.inl rfl))).trans (Fm.wI (Or.inl rfl))).mono (fun b hb z => by omega)
  have y1 : mK (wI (wI (wI (wI (nO X 4) 400 (mZ X) k) 401 (mZ X) (nI tj)) 402 (mZ X) v) 403 (mZ X) nn) (mZ X) = some (4, 0) := mK_nO0
  have y2 : mI (wI (wI (wI (wI (nO X 4) 400 (mZ X) k) 401 (mZ X) (nI tj)) 402 (mZ X) v) 403 (mZ X) nn) 400 (mZ X) = k := by rw [mI_wI, if_neg (by omega), mI_wI, if_neg (by omega), mI_wI, if_neg (by omega), mI_wI, if_pos ⟨rfl, rfl⟩]
  have y3 : mI (wI (wI (wI (wI (nO X 4) 400 (mZ X) k) 401 (mZ X) (nI tj)) 402 (mZ X) v) 403 (mZ X) nn) 401 (mZ X) = nI tj := by rw [mI_wI, if_neg (by omega), mI_wI, if_neg (by omega), mI_wI, if_pos ⟨rfl, rfl⟩]
  have y4 : mI (wI (wI (wI (wI (nO X 4) 400 (mZ X) k) 401 (mZ X) (nI tj)) 402 (mZ X) v) 403 (mZ X) nn) 402 (mZ X) = v := by rw [mI_wI, if_neg (by omega), mI_wI, if_pos ⟨rfl, rfl⟩]
  have y5 : mI (wI (wI (wI (wI (nO X 4) 400 (mZ X) k) 401 (mZ X) (nI tj)) 402 (mZ X) v) 403 (mZ X) nn) 403 (mZ X) = nn := by rw [mI_wI, if_pos ⟨rfl, rfl⟩]
  have y6 : RfK X (wI (wI (wI (wI (nO X 4) 400 (mZ X) k) 401 (mZ X) (nI tj)) 402 (mZ X) v) 403 (mZ X) nn) := fun a ha k _ _ => by rw [mR_wIx, mR_wIx, mR_wIx, mR_wIx, mR_nO (by omega)]
  have y7 : mZ (wI (wI (wI (wI (nO X 4) 400 (mZ X) k) 401 (mZ X) (nI tj)) 402 (mZ X) v) 403 (mZ X) nn) = mZ X + 1 := rfl
  have g0 : FreshM (wI (wI (wI (wI (nO X 4) 400 (mZ X) k) 401 (mZ X) (nI tj)) 402 (mZ X) v) 403 (mZ X) nn) := (hF.nO (c := 4)).cg rfl rfl
  unfold fX11_addOrder fX1_length
  rw [if_pos hx, B.r 1100 0 1 (by decide), bi_some, if_pos d1.1, if_pos d1.1, bi_some, d1.2.2.2.1, if_pos (show nI n < 30 from (nI_ltI (by omega) (by omega : 30 < 2 ^ 31)).mpr a1), bi_some, bi_some, i1, bi_some, bi_some]
  generalize wI (wI (wI (wI (nO X 4) 400 (mZ X) k) 401 (mZ X) (nI tj)) 402 (mZ X) v) 403 (mZ X) nn = Y at f0 y1 y2 y3 y4 y5 y6 y7 g0 ⊢
  have e1 : mK Y (A 1) = some (1, 0) := f0.k hF d1.1
  have e9 : mK Y (A 9) = some (23, 30) := f0.k hF d1.2.2.1
  have e10 : mK Y (A 10) = some (21, 4) := f0.k hF k10
  have hb : k = 8 → 0 < (br K n).length := fun q => Nat.pos_of_ne_zero (fun z => a5 q (List.eq_nil_of_length_eq_zero z))
  obtain ⟨X', p1, p2, p3, p4, p5, p6, p7, p8⟩ := x_append (b := (br K n).length) (o := mZ X) (tj := tj) e1 (by rw [f0.r hF d1.1 (fun z => z)]; exact d1.2.1) e9 (by rw [f0.i hF d1.1 (fun z => z) (by omega)]; exact d1.2.2.2.1) a1 y1 y2 y3 htj (by rw [f0.i hF d1.1 (fun z => z) (by omega)]; exact d3) (by rw [f0.r hF d1.1 (fun z => z)]; exact B.r 101 1 10 (by decide)) e10 hb
  have x1' : mK X' (A 0) = some (11, 0) := by rw [p2]; exact f0.k hF hx
  have x2' : mK X' (A 1) = some (1, 0) := by rw [p2]; exact e1
  have x3' : mR X' 1100 (A 0) = some (A 1) := by rw [p3, f0.r hF hx (fun z => z)]; exact B.r 1100 0 1 (by decide)
  rw [if_pos e1, p1, bi_some, if_pos x1', x3', bi_some, if_pos x2', if_pos x2', bi_some, p6, if_pos ⟨rfl, rfl⟩]
  have fm : Fm (fun b => b = A 1 ∨ b = A 9 ∨ b = A 10) X X' := (f0.mono (fun _ _ z => z.elim)).trans p5
  refine ⟨X', rfl, fm, fun a ha k h2 h7 => by rw [p3]; exact y6 a ha k h2 h7, ?_⟩
  have n41 : ∀ {b : Nat} {c m : Nat}, mK X b = some (c, m) → c ≠ 1 → b ≠ A 1 := fun h9 hc => kne1 h9 d1.1 hc
  refine ⟨upN oa n (mZ X), ⟨x2', by rw [p3, f0.r hF d1.1 (fun z => z)]; exact d1.2.1, by rw [p2]; exact e9, by rw [p6, if_pos ⟨rfl, rfl⟩], fun i hi => ?_⟩, fun i hi => ?_, ?_, fun w hw => ?_⟩
  · by_cases e : i = n
    · subst e
      rw [upN_s, upN_s, upN_s, upN_s, upN_s, p7, if_pos ⟨rfl, rfl⟩, p2, p6, if_neg (by omega), if_neg (by omega), p6, if_neg (by omega), if_neg (by omega), p6, if_neg (by omega), if_neg (by omega), p6, if_neg (by omega), if_neg (by omega)]
      exact ⟨rfl, y1, y2, y3, y4, y5⟩
    · obtain ⟨c1, c2, c3, c4, c5, c6⟩ := d1.2.2.2.2 i (by omega)
      rw [upN_o e, upN_o e, upN_o e, upN_o e, upN_o e, p7, if_neg (fun z => e z.2), p2, f0.ar hF d1.2.2.1 (fun z => z), p6, if_neg (by omega), if_neg (by omega), p6, if_neg (by omega), if_neg (by omega), p6, if_neg (by omega), if_neg (by omega), p6, if_neg (by omega), if_neg (by omega), f0.i hF c2 (fun z => z) (by omega), f0.i hF c2 (fun z => z) (by omega), f0.i hF c2 (fun z => z) (by omega), f0.i hF c2 (fun z => z) (by omega)]
      exact ⟨c1, f0.k hF c2, c3, c4, c5, c6⟩
  · by_cases e : i = n
    · rw [e, upN_s]
      exact if_neg (Nat.lt_irrefl _)
    · rw [upN_o e]
      exact (if_pos (hF.lt (d1.2.2.2.2 i (by omega)).2.1)).trans (d2 i (by omega))
  · rw [p6, if_neg (by omega), if_pos ⟨rfl, rfl⟩, br_opn]
  · rw [p8]
    by_cases e : k = 6 ∧ A 10 = A 10 ∧ w = tj
    · rw [if_pos e]
      exact Or.inl ⟨rfl, WdP_up.mpr (Or.inr ⟨e.1, by rw [e.2.2]⟩)⟩
    · rw [if_neg e, f0.ai hF k10 (fun z => z)]
      refine (d4 w hw).cg ⟨fun z => WdP_up.mpr (Or.inl z), fun z => (WdP_up.mp z).elim id (fun y => absurd ⟨y.1, rfl, ?_⟩ e)⟩
      exact ((nI_eq (by omega) (by omega)).mp y.2).symm
end ADD
