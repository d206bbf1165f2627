/-! the draft -/
theorem br_cg {K K' : Nat → Int32} : ∀ i, (∀ j, j < i → K j = K' j) → br K i = br K' i := by
  intro i
  induction i with
  | zero => intro _; rfl
  | succ i ih =>
    intro h
    have e := ih (fun j hj => h j (by omega))
    have ek := h i (by omega)
    show (if K i = 5 ∨ K i = 6 then i :: br K i else if K i = 8 then (br K i).tail else br K i) = (if K' i = 5 ∨ K' i = 6 then i :: br K' i else if K' i = 8 then (br K' i).tail else br K' i)
    rw [e, ek]
theorem br_upN {K : Nat → Int32} {n : Nat} {k : Int32} {i : Nat} (h : i ≤ n) : br (upN K n k) i = br K i := br_cg i (fun j hj => upN_o (by omega))
/-- how many blocks are open behind a further order -/
def opn (b : Nat) (k : Int32) : Nat := if k = 5 ∨ k = 6 then b + 1 else if k = 8 then b - 1 else b
theorem br_opn {K : Nat → Int32} {n : Nat} {k : Int32} : (br (upN K n k) (n + 1)).length = opn (br K n).length k := by
  unfold opn
  have e : br (upN K n k) n = br K n := br_upN (Nat.le_refl n)
  have ek : upN K n k n = k := upN_s
  show (if upN K n k n = 5 ∨ upN K n k n = 6 then n :: br (upN K n k) n else if upN K n k n = 8 then (br (upN K n k) n).tail else br (upN K n k) n).length = _
  rw [e, ek]
  by_cases h1 : k = 5 ∨ k = 6
  · rw [if_pos h1, if_pos h1, List.length_cons]
  · rw [if_neg h1, if_neg h1]
    by_cases h2 : k = 8
    · rw [if_pos h2, if_pos h2, List.length_tail]
    · rw [if_neg h2, if_neg h2]
theorem WdP_up {K T : Nat → Int32} {n : Nat} {k t : Int32} {w : Nat} : WdP (upN K n k) (upN T n t) (n + 1) w ↔ WdP K T n w ∨ (k = 6 ∧ t = nI w) := by
  constructor
  · rintro ⟨i, hi, h1, h2⟩
    by_cases e : i = n
    · rw [e, upN_s] at h1 h2
      exact Or.inr ⟨h1, h2⟩
    · rw [upN_o e] at h1 h2
      exact Or.inl ⟨i, by omega, h1, h2⟩
  · rintro (⟨i, hi, h1, h2⟩ | ⟨h1, h2⟩)
    · exact ⟨i, by omega, by rw [upN_o (by omega)]; exact h1, by rw [upN_o (by omega)]; exact h2⟩
    · exact ⟨n, by omega, by rw [upN_s]; exact h1, by rw [upN_s]; exact h2⟩
/-- what may come to a draft -/
def AddP (K T : Nat → Int32) (n : Nat) (k t v nn : Int32) : Prop := n < 30 ∧ (0 ≤ k ∧ k ≤ 8) ∧ (0 ≤ t ∧ t ≤ 3) ∧ ((nn = 0 ∧ -99 ≤ v ∧ v ≤ 99) ∨ (nn = 1 ∧ 0 ≤ v ∧ v ≤ 3)) ∧ (k = 8 → br K n ≠ []) ∧ (k = 6 → br K n = [] ∧ ∀ i, i < n → K i = 6 → T i ≠ t)
theorem DrfP.add {K T V N : Nat → Int32} {n : Nat} {k t v nn : Int32} (h : DrfP K T V N n) (a : AddP K T n k t v nn) : DrfP (upN K n k) (upN T n t) (upN V n v) (upN N n nn) (n + 1) := by
  obtain ⟨h1, h2, h3, h4, h5, h6⟩ := h
  obtain ⟨a1, a2, a3, a4, a5, a6⟩ := a
  refine ⟨by omega, fun i hi => ?_, fun i hi => ?_, fun i hi => ?_, fun i hi => ?_, fun i j hi hj k1 k2 k3 => ?_⟩
  · by_cases e : i = n
    · subst e
      rw [upN_s, br_upN (Nat.le_refl i)]
      exact ⟨a5, fun q => (a6 q).1⟩
    · rw [upN_o e, br_upN (by omega)]
      exact h2 i (by omega)
  · by_cases e : i = n
    · rw [e, upN_s]; exact a2
    · rw [upN_o e]; exact h3 i (by omega)
  · by_cases e : i = n
    · rw [e, upN_s]; exact a3
    · rw [upN_o e]; exact h4 i (by omega)
  · by_cases e : i = n
    · rw [e, upN_s, upN_s]; exact a4
    · rw [upN_o e, upN_o e]; exact h5 i (by omega)
  · by_cases ei : i = n
    · by_cases ej : j = n
      · omega
      · rw [ei, upN_s] at k1 k3
        rw [upN_o ej] at k2 k3
        exact absurd k3.symm ((a6 k1).2 j (by omega) k2)
    · by_cases ej : j = n
      · rw [ej, upN_s] at k2 k3
        rw [upN_o ei] at k1 k3
        exact absurd k3 ((a6 k2).2 i (by omega) k1)
      · rw [upN_o ei] at k1 k3
        rw [upN_o ej] at k2 k3
        exact h6 i j (by omega) (by omega) k1 k2 k3
theorem opn_n {b : Nat} {k : Int32} (h : k = 8 → 0 < b) : (if k = 5 ∨ k = 6 then nI b + 1 else if k = 8 then nI b - 1 else nI b) = nI (opn b k) := by
  unfold opn
  by_cases h1 : k = 5 ∨ k = 6
  · rw [if_pos h1, if_pos h1, nI_1]
  · rw [if_neg h1, if_neg h1]
    by_cases h2 : k = 8
    · rw [if_pos h2, if_pos h2]
      obtain ⟨c, rfl⟩ : ∃ c, b = c + 1 := ⟨b - 1, by have := h h2; omega⟩
      rw [nI_pred, Nat.add_sub_cancel]
    · rw [if_neg h2, if_neg h2]
theorem x_append {Y : Mem} {d dO o tl n b tj : Nat} {k : Int32} (h1 : mK Y d = some (1, 0)) (h2 : mR Y 100 d = some dO) (h3 : mK Y dO = some (23, 30)) (h4 : mI Y 102 d = nI n) (hn : n < 30) (h5 : mK Y o = some (4, 0)) (h6 : mI Y 400 o = k) (h7 : mI Y 401 o = nI tj) (ht : tj < 4) (h8 : mI Y 103 d = nI b) (h9 : mR Y 101 d = some tl) (h10 : mK Y tl = some (21, 4)) (hb : k = 8 → 0 < b) :
    ∃ Y', fX1_append Y d (some o) = some Y' ∧ mK Y' = mK Y ∧ mR Y' = mR Y ∧ mZ Y' = mZ Y ∧ Fm (fun a => a = d ∨ a = dO ∨ a = tl) Y Y' ∧ (∀ i a, mI Y' i a = if i = 102 ∧ a = d then nI (n + 1) else if i = 103 ∧ a = d then nI (opn b k) else mI Y i a) ∧ (∀ a j, aR Y' a j = if a = dO ∧ j = n then some o else aR Y a j) ∧ ∀ a j, aI Y' a j = if k = 6 ∧ a = tl ∧ j = tj then 1 else aI Y a j := by
  have od : o ≠ d := kne1 h5 h1 (by decide)
  -- the last part: a word is told
  have l79 : ∀ Z : Mem, mK Z = mK Y → mR Z = mR Y → mI Z 400 o = k → mI Z 401 o = nI tj → ∃ Y', fX1_append_L79 Z d o = some Y' ∧ mK Y' = mK Z ∧ mR Y' = mR Z ∧ mZ Y' = mZ Z ∧ mI Y' = mI Z ∧ aR Y' = aR Z ∧ Fm (fun a => a = d ∨ a = dO ∨ a = tl) Z Y' ∧ ∀ a j, aI Y' a j = if k = 6 ∧ a = tl ∧ j = tj then 1 else aI Z a j := by
    intro Z z1 z2 z3 z4
    unfold fX1_append_L79
    rw [if_pos (show mK Z o = some (4, 0) by rw [z1]; exact h5), z3]
    by_cases e : k = 6
    · have k10 : mK Z tl = some (21, 4) := by rw [z1]; exact h10
      rw [if_pos e, z4, if_neg (nI_pos (by omega)), if_pos (show mK Z d = some (1, 0) by rw [z1]; exact h1), z2, h9, bi_some, alen_of k10 (by decide), bi_some, if_neg (fun q => by have := (nI_leI (by omega) (by omega)).mp q; omega), bi_some, if_pos (inb_of (t := 1) k10 ht (by omega)), nI_clamp (by omega)]
      refine ⟨_, rfl, rfl, z2, rfl, rfl, rfl, Fm.sI (Or.inr (Or.inr rfl)), fun a j => ?_⟩
      rw [aI_sI]
      by_cases e2 : a = tl ∧ j = tj
      · rw [if_pos e2, if_pos ⟨e, e2⟩]
      · rw [if_neg e2, if_neg (fun z => e2 z.2)]
    · rw [if_neg e]
      exact ⟨Z, rfl, rfl, rfl, rfl, rfl, rfl, Fm.rfl9, fun a j => by rw [if_neg (fun z => e z.1)]⟩
  have f2 : Fm (fun a => a = d ∨ a = dO ∨ a = tl) Y (wI (sR Y dO n (some o)) 102 d (nI (n + 1))) := Fm.trans (P := fun a => a = d ∨ a = dO ∨ a = tl) (Fm.sR (Or.inr (Or.inl rfl))) (Fm.wI (Or.inl (Or.inl rfl)))
  have q1 : mK (wI (sR Y dO n (some o)) 102 d (nI (n + 1))) = mK Y := rfl
  have q2 : mR (wI (sR Y dO n (some o)) 102 d (nI (n + 1))) = mR Y := rfl
  have q3 : mZ (wI (sR Y dO n (some o)) 102 d (nI (n + 1))) = mZ Y := rfl
  have q4 : ∀ i a, mI (wI (sR Y dO n (some o)) 102 d (nI (n + 1))) i a = if i = 102 ∧ a = d then nI (n + 1) else mI Y i a := fun i a => by rw [mI_wI, mI_sR]
  have q5 : ∀ a j, aR (wI (sR Y dO n (some o)) 102 d (nI (n + 1))) a j = if a = dO ∧ j = n then some o else aR Y a j := fun a j => by rw [aR_wIx, aR_sR]
  have q6 : ∀ a j, aI (wI (sR Y dO n (some o)) 102 d (nI (n + 1))) a j = aI Y a j := fun a j => rfl
  have q7 : mI (sR Y dO n (some o)) 102 d = nI n := h4
  unfold fX1_append
  rw [if_pos h1, h4, if_neg (nI_pos (by omega)), h2, bi_some, alen_of h3 (by decide), bi_some, if_pos ((nI_ltI (by omega) (by omega)).mpr hn), bi_some, if_pos (inb_of (t := 3) h3 hn (by omega)), bi_some, if_pos h5, nI_clamp (by omega), q7, nI_1]
  generalize wI (sR Y dO n (some o)) 102 d (nI (n + 1)) = Z at f2 q1 q2 q3 q4 q5 q6 ⊢
  have z400 : mI Z 400 o = k := by rw [q4, if_neg (by omega)]; exact h6
  have z401 : mI Z 401 o = nI tj := by rw [q4, if_neg (by omega)]; exact h7
  have z103 : mI Z 103 d = nI b := by rw [q4, if_neg (by omega)]; exact h8
  have zo : fX4_opensBlock Z o = some (if k = 5 ∨ k = 6 then 1 else 0) := by
    unfold fX4_opensBlock
    rw [if_pos (show mK Z o = some (4, 0) by rw [q1]; exact h5), z400]
    by_cases e5 : k = 5
    · rw [if_pos e5, if_pos (Or.inl e5)]
    · rw [if_neg e5]
      by_cases e6 : k = 6
      · rw [if_pos e6, if_pos (Or.inr e6)]
      · rw [if_neg e6, if_neg (fun z => z.elim e5 e6)]
  have fin : ∀ Z' : Mem, mK Z' = mK Z → mR Z' = mR Z → mZ Z' = mZ Z → aR Z' = aR Z → aI Z' = aI Z → Fm (fun a => a = d ∨ a = dO ∨ a = tl) Z Z' → (∀ i a, mI Z' i a = if i = 103 ∧ a = d then nI (opn b k) else mI Z i a) → ∃ Y', fX1_append_L79 Z' d o = some Y' ∧ mK Y' = mK Y ∧ mR Y' = mR Y ∧ mZ Y' = mZ Y ∧ Fm (fun a => a = d ∨ a = dO ∨ a = tl) Y Y' ∧ (∀ i a, mI Y' i a = if i = 102 ∧ a = d then nI (n + 1) else if i = 103 ∧ a = d then nI (opn b k) else mI Y i a) ∧ (∀ a j, aR Y' a j = if a = dO ∧ j = n then some o else aR Y a j) ∧ ∀ a j, aI Y' a j = if k = 6 ∧ a = tl ∧ j = tj then 1 else aI Y a j := by
    intro Z' r1 r2 r3 r4 r5 r6 r7
    obtain ⟨Y', s1, s2, s3, s4, s5, s6, s7, s8⟩ := l79 Z' (r1.trans q1) (r2.trans q2) (by rw [r7, if_neg (by omega)]; exact z400) (by rw [r7, if_neg (by omega)]; exact z401)
    refine ⟨Y', s1, s2.trans (r1.trans q1), s3.trans (r2.trans q2), s4.trans (r3.trans q3), (f2.trans r6).trans s7, fun i a => ?_, fun a j => by rw [s6, r4, q5], fun a j => by rw [s8, r5, q6]⟩
    rw [s5, r7, q4]
    by_cases e : i = 102 ∧ a = d
    · rw [if_pos e, if_neg (by omega), if_pos e]
    · rw [if_neg e, if_neg e]
  rw [zo, bi_some]
  by_cases e1 : k = 5 ∨ k = 6
  · rw [if_pos e1, if_neg n10, z103]
    refine fin _ rfl rfl rfl rfl rfl (Fm.wI (Or.inl (Or.inl rfl))) (fun i a => ?_)
    rw [mI_wI, nI_1]
    unfold opn
    rw [if_pos e1]
  · rw [if_neg e1, if_pos rfl, z400]
    by_cases e8 : k = 8
    · rw [if_pos e8, z103]
      refine fin _ rfl rfl rfl rfl rfl (Fm.wI (Or.inl (Or.inl rfl))) (fun i a => ?_)
      obtain ⟨c, hc⟩ : ∃ c, b = c + 1 := ⟨b - 1, by have := hb e8; omega⟩
      rw [mI_wI]
      unfold opn
      rw [if_neg e1, if_pos e8, hc, nI_pred, Nat.add_sub_cancel]
    · rw [if_neg e8]
      refine fin Z rfl rfl rfl rfl rfl Fm.rfl9 (fun i a => ?_)
      unfold opn
      rw [if_neg e1, if_neg e8]
      by_cases e : i = 103 ∧ a = d
      · rw [if_pos e, e.1, e.2, z103]
      · rw [if_neg e]
section ADD
variable {A ro pa ea wa : Nat → Nat} {K T V N : Nat → Int32} {n : Nat} {X : Mem}
theorem x_full (B : BaseX A ro X) (D : DrfX A ro K T V N n X) (h : n = 30) (k t v nn : Int32) : fX11_addOrder X (A 0) k t v nn = some (.inl "java/lang/IllegalStateException") := by
  obtain ⟨oa, d1, d2⟩ := D
  unfold fX11_addOrder fX1_length
  rw [if_pos (B.k 0 11 0 (by decide)), B.r 1100 0 1 (by decide), bi_some, if_pos d1.1, if_pos d1.1, bi_some, d1.2.2.2.1, h, if_neg (show ¬ nI 30 < 30 by decide)]
theorem x_add {k t v nn : Int32} (B : BaseX A ro X) (D : DrfX A ro K T V N n X) (hF : FreshM X) (a : AddP K T n k t v nn) :
    ∃ X', fX11_addOrder X (A 0) k t v nn = some (.inr (nI (n + 1), X')) ∧ FreshM X' ∧ Fm (fun b => b = A 1 ∨ b = A 9 ∨ b = A 10) X X' ∧ RfK X X' ∧ DrfX A (fun a => if a < mZ X then ro a else 50) (upN K n k) (upN T n t) (upN V n v) (upN N n nn) (n + 1) X' := by
  obtain ⟨oa, d1, d2, d3, d4⟩ := D
  obtain ⟨a1, a2, a3, a4, a5, a6⟩ := a
  obtain ⟨tj, htj, rfl⟩ := t_lt4 a3.1 a3.2
  have hx := B.k 0 11 0 (by decide)
  have k10 := B.k 10 21 4 (by decide)
  have l0 := hF.lt hx
  have l1 := hF.lt d1.1
  have l9 := hF.lt d1.2.2.1
  have l10 := hF.lt k10
  have hnn : nn = 0 ∨ nn = 1 := a4.elim (fun z => Or.inl z.1) (fun z => Or.inr z.1)
  have i1 : fX4_init (nO X 4) (mZ X) k (nI tj) v nn = some (wI (wI (wI (wI (nO X 4) 400 (mZ X) k) 401 (mZ X) (nI tj)) 402 (mZ X) v) 403 (mZ X) nn) := by
    unfold fX4_init
    rw [if_pos mK_nO0, if_pos hnn]
  have f0 : Fm (fun _ => False) X (wI (wI (wI (wI (nO X 4) 400 (mZ X) k) 401 (mZ X) (nI tj)) 402 (mZ X) v) 403 (mZ X) nn) := (((((Fm.nO (P := fun b => b = mZ X)).trans (Fm.wI (Or.inl rfl))).trans (Fm.wI (Or.inl rfl))).trans (Fm.wI (Or.inl rfl))).trans (Fm.wI (Or.inl rfl))).mono (fun b hb z => by omega)
  have y1 : mK (wI (wI (wI (wI (nO X 4) 400 (mZ X) k) 401 (mZ X) (nI tj)) 402 (mZ X) v) 403 (mZ X) nn) (mZ X) = some (4, 0) := mK_nO0
  have y2 : mI (wI (wI (wI (wI (nO X 4) 400 (mZ X) k) 401 (mZ X) (nI tj)) 402 (mZ X) v) 403 (mZ X) nn) 400 (mZ X) = k := by rw [mI_wI, if_neg (by omega), mI_wI, if_neg (by omega), mI_wI, if_neg (by omega), mI_wI, if_pos ⟨rfl, rfl⟩]
  have y3 : mI (wI (wI (wI (wI (nO X 4) 400 (mZ X) k) 401 (mZ X) (nI tj)) 402 (mZ X) v) 403 (mZ X) nn) 401 (mZ X) = nI tj := by rw [mI_wI, if_neg (by omega), mI_wI, if_neg (by omega), mI_wI, if_pos ⟨rfl, rfl⟩]
  have y4 : mI (wI (wI (wI (wI (nO X 4) 400 (mZ X) k) 401 (mZ X) (nI tj)) 402 (mZ X) v) 403 (mZ X) nn) 402 (mZ X) = v := by rw [mI_wI, if_neg (by omega), mI_wI, if_pos ⟨rfl, rfl⟩]
  have y5 : mI (wI (wI (wI (wI (nO X 4) 400 (mZ X) k) 401 (mZ X) (nI tj)) 402 (mZ X) v) 403 (mZ X) nn) 403 (mZ X) = nn := by rw [mI_wI, if_pos ⟨rfl, rfl⟩]
  have y6 : RfK X (wI (wI (wI (wI (nO X 4) 400 (mZ X) k) 401 (mZ X) (nI tj)) 402 (mZ X) v) 403 (mZ X) nn) := fun a ha k _ _ => by rw [mR_wIx, mR_wIx, mR_wIx, mR_wIx, mR_nO (by omega)]
  have y7 : mZ (wI (wI (wI (wI (nO X 4) 400 (mZ X) k) 401 (mZ X) (nI tj)) 402 (mZ X) v) 403 (mZ X) nn) = mZ X + 1 := rfl
  have g0 : FreshM (wI (wI (wI (wI (nO X 4) 400 (mZ X) k) 401 (mZ X) (nI tj)) 402 (mZ X) v) 403 (mZ X) nn) := (hF.nO (c := 4)).cg rfl rfl
  unfold fX11_addOrder fX1_length
  rw [if_pos hx, B.r 1100 0 1 (by decide), bi_some, if_pos d1.1, if_pos d1.1, bi_some, d1.2.2.2.1, if_pos (show nI n < 30 from (nI_ltI (by omega) (by omega : 30 < 2 ^ 31)).mpr a1), bi_some, bi_some, i1, bi_some, bi_some]
  generalize wI (wI (wI (wI (nO X 4) 400 (mZ X) k) 401 (mZ X) (nI tj)) 402 (mZ X) v) 403 (mZ X) nn = Y at f0 y1 y2 y3 y4 y5 y6 y7 g0 ⊢
  have e1 : mK Y (A 1) = some (1, 0) := f0.k hF d1.1
  have e9 : mK Y (A 9) = some (23, 30) := f0.k hF d1.2.2.1
  have e10 : mK Y (A 10) = some (21, 4) := f0.k hF k10
  have hb : k = 8 → 0 < (br K n).length := fun q => Nat.pos_of_ne_zero (fun z => a5 q (List.eq_nil_of_length_eq_zero z))
  obtain ⟨X', p1, p2, p3, p4, p5, p6, p7, p8⟩ := x_append (b := (br K n).length) (o := mZ X) (tj := tj) e1 (by rw [f0.r hF d1.1 (fun z => z)]; exact d1.2.1) e9 (by rw [f0.i hF d1.1 (fun z => z) (by omega)]; exact d1.2.2.2.1) a1 y1 y2 y3 htj (by rw [f0.i hF d1.1 (fun z => z) (by omega)]; exact d3) (by rw [f0.r hF d1.1 (fun z => z)]; exact B.r 101 1 10 (by decide)) e10 hb
  have x1' : mK X' (A 0) = some (11, 0) := by rw [p2]; exact f0.k hF hx
  have x2' : mK X' (A 1) = some (1, 0) := by rw [p2]; exact e1
  have x3' : mR X' 1100 (A 0) = some (A 1) := by rw [p3, f0.r hF hx (fun z => z)]; exact B.r 1100 0 1 (by decide)
  rw [if_pos e1, p1, bi_some, if_pos x1', x3', bi_some, if_pos x2', if_pos x2', bi_some, p6, if_pos ⟨rfl, rfl⟩]
  have fm : Fm (fun b => b = A 1 ∨ b = A 9 ∨ b = A 10) X X' := (f0.mono (fun _ _ z => z.elim)).trans p5
  refine ⟨X', rfl, g0.cg p2 p4, fm, fun a ha k h2 h7 => by rw [p3]; exact y6 a ha k h2 h7, ?_⟩
  have n41 : ∀ {b : Nat} {c m : Nat}, mK X b = some (c, m) → c ≠ 1 → b ≠ A 1 := fun h9 hc => kne1 h9 d1.1 hc
  refine ⟨upN oa n (mZ X), ⟨x2', by rw [p3, f0.r hF d1.1 (fun z => z)]; exact d1.2.1, by rw [p2]; exact e9, by rw [p6, if_pos ⟨rfl, rfl⟩], fun i hi => ?_⟩, fun i hi => ?_, ?_, fun w hw => ?_⟩
  · by_cases e : i = n
    · subst e
      rw [upN_s, upN_s, upN_s, upN_s, upN_s, p7, if_pos ⟨rfl, rfl⟩, p2, p6, if_neg (by omega), if_neg (by omega), p6, if_neg (by omega), if_neg (by omega), p6, if_neg (by omega), if_neg (by omega), p6, if_neg (by omega), if_neg (by omega)]
      exact ⟨rfl, y1, y2, y3, y4, y5⟩
    · obtain ⟨c1, c2, c3, c4, c5, c6⟩ := d1.2.2.2.2 i (by omega)
      rw [upN_o e, upN_o e, upN_o e, upN_o e, upN_o e, p7, if_neg (fun z => e z.2), p2, f0.ar hF d1.2.2.1 (fun z => z), p6, if_neg (by omega), if_neg (by omega), p6, if_neg (by omega), if_neg (by omega), p6, if_neg (by omega), if_neg (by omega), p6, if_neg (by omega), if_neg (by omega), f0.i hF c2 (fun z => z) (by omega), f0.i hF c2 (fun z => z) (by omega), f0.i hF c2 (fun z => z) (by omega), f0.i hF c2 (fun z => z) (by omega)]
      exact ⟨c1, f0.k hF c2, c3, c4, c5, c6⟩
  · by_cases e : i = n
    · rw [e, upN_s]
      exact if_neg (Nat.lt_irrefl _)
    · rw [upN_o e]
      exact (if_pos (hF.lt (d1.2.2.2.2 i (by omega)).2.1)).trans (d2 i (by omega))
  · rw [p6, if_neg (by omega), if_pos ⟨rfl, rfl⟩, br_opn]
  · rw [p8]
    by_cases e : k = 6 ∧ A 10 = A 10 ∧ w = tj
    · rw [if_pos e]
      exact Or.inl ⟨rfl, WdP_up.mpr (Or.inr ⟨e.1, by rw [e.2.2]⟩)⟩
    · rw [if_neg e, f0.ai hF k10 (fun z => z)]
      refine (d4 w hw).cg ⟨fun z => WdP_up.mpr (Or.inl z), fun z => (WdP_up.mp z).elim id (fun y => absurd ⟨y.1, rfl, ?_⟩ e)⟩
      exact ((nI_eq (by omega) (by omega)).mp y.2).symm
end ADD
def NmP (v : Int32) : Prop := ∃ j, j < 4 ∧ v = nI j
theorem NmP.r {v : Int32} (h : NmP v) : 0 ≤ v ∧ v ≤ 3 := by
  obtain ⟨j, hj, rfl⟩ := h
  exact ⟨nI_pos' (by omega), (nI_leI (by omega) (by omega : 3 < 2 ^ 31)).mpr (by omega)⟩
theorem x_name {X : Mem} (v : Int32) : (NmP v ∧ fX11_checkName X v = some (.inr ())) ∨ (¬ NmP v ∧ fX11_checkName X v = some (.inl "java/lang/IndexOutOfBoundsException")) := by
  unfold fX11_checkName
  rcases pk_ix v (show 4 < 2 ^ 31 by omega) with h | h | ⟨j, hj, rfl⟩
  · rw [if_pos h]
    exact Or.inr ⟨fun ⟨j, hj, e⟩ => nI_pos (n := j) (by omega) (by rw [e] at h; exact h), rfl⟩
  · refine Or.inr ⟨fun ⟨j, hj, e⟩ => by rw [e] at h; have := (nI_leI (by omega) (by omega)).mp h; omega, ?_⟩
    by_cases h0 : v < 0
    · rw [if_pos h0]
    · rw [if_neg h0, if_neg (show ¬ v < (4 : Int32) from fun z => Int32.lt_irrefl (Int32.lt_of_lt_of_le z h))]
  · rw [if_neg (nI_pos (by omega)), if_pos (show nI j < (4 : Int32) from (nI_ltI (by omega) (by omega : 4 < 2 ^ 31)).mpr hj)]
    exact Or.inl ⟨⟨j, hj, rfl⟩, rfl⟩
theorem x_wname {X : Mem} (v : Int32) : (NmP v ∧ fX11_checkWord X v = some (.inr ())) ∨ (¬ NmP v ∧ fX11_checkWord X v = some (.inl "java/lang/IndexOutOfBoundsException")) := x_name (X := X) v
def VaP (v nm least : Int32) : Prop := (nm = 0 ∧ least ≤ v ∧ v ≤ 99) ∨ (nm = 1 ∧ NmP v)
theorem x_value {X : Mem} {v nm least : Int32} (h : nm = 0 ∨ nm = 1) : (VaP v nm least ∧ fX11_checkValue X v nm least = some (.inr ())) ∨ ((nm = 1 ∧ ¬ NmP v) ∧ fX11_checkValue X v nm least = some (.inl "java/lang/IndexOutOfBoundsException")) ∨ ((nm = 0 ∧ ¬ (least ≤ v ∧ v ≤ 99)) ∧ fX11_checkValue X v nm least = some (.inl "java/lang/IllegalArgumentException")) := by
  unfold fX11_checkValue
  rcases h with e | e
  · rw [if_pos e]
    by_cases h1 : v < least
    · rw [if_pos h1]
      exact Or.inr (Or.inr ⟨⟨e, fun z => Int32.not_lt.mpr z.1 h1⟩, rfl⟩)
    · rw [if_neg h1]
      by_cases h2 : v ≤ 99
      · rw [if_pos h2]
        exact Or.inl ⟨Or.inl ⟨e, Int32.not_lt.mp h1, h2⟩, rfl⟩
      · rw [if_neg h2]
        exact Or.inr (Or.inr ⟨⟨e, fun z => h2 z.2⟩, rfl⟩)
  · rw [if_neg (by rw [e]; decide)]
    rcases x_name (X := X) v with ⟨h1, h2⟩ | ⟨h1, h2⟩
    · rw [h2, bE_r]
      exact Or.inl ⟨Or.inr ⟨e, h1⟩, rfl⟩
    · rw [h2, bE_l]
      exact Or.inr (Or.inl ⟨⟨e, h1⟩, rfl⟩)
theorem VaP.a {v nm least : Int32} (h : VaP v nm least) (hl : -99 ≤ least) : (nm = 0 ∧ -99 ≤ v ∧ v ≤ 99) ∨ (nm = 1 ∧ 0 ≤ v ∧ v ≤ 3) := h.imp (fun z => ⟨z.1, Int32.le_trans hl z.2.1, z.2.2⟩) (fun z => ⟨z.1, z.2.r⟩)
theorem Nm0 : NmP 0 := ⟨0, by decide, rfl⟩
section MD
variable {fu x : Nat} {K T V N : Nat → Int32} {n np : Nat} {G : Nat → Pg} {ne : Nat} {ew : Nat → Nat} {eo es : Nat → Int32} {nw : Nat} {wp we : Nat → Nat} {wc : Nat → Int32} {wo : Nat → Option Nat} {W H : Nat} {X : Mem}
/-- a draft, one order longer -/
theorem m_addO {k t v nn : Int32} (h : StX x K T V N n np G ne ew eo es nw wp we wc wo W H X) (hP : RelP K T V N n np G ne ew nw wp we wc wo W H) (a : AddP K T n k t v nn) : ∃ X1, fX11_addOrder X x k t v nn = some (.inr (nI (n + 1), X1)) ∧ StX x (upN K n k) (upN T n t) (upN V n v) (upN N n nn) (n + 1) np G ne ew eo es nw wp we wc wo W H X1 ∧ RelP (upN K n k) (upN T n t) (upN V n v) (upN N n nn) (n + 1) np G ne ew nw wp we wc wo W H ∧ Keeps9 X X1 := by
  obtain ⟨hF, A, ro, pa, ea, wa, rfl, hX⟩ := h
  obtain ⟨B, D, P, E, Wk, Wl, Hg⟩ := hX
  obtain ⟨pD, pP, pE, pW, pL⟩ := hP
  obtain ⟨X', z1, g9, fm, rk, D'⟩ := x_add B D hF a
  have hP : ∀ (L : List Nat), 1 ∉ L → 9 ∉ L → 10 ∉ L → ∀ a, ro a ∈ L → ¬ (a = A 1 ∨ a = A 9 ∨ a = A 10) := by
    rintro L h1 h2 h3 a ha (z | z | z)
    · rw [z, B.o 1 1 0 (by decide)] at ha; exact h1 ha
    · rw [z, B.o 9 23 30 (by decide)] at ha; exact h2 ha
    · rw [z, B.o 10 21 4 (by decide)] at ha; exact h3 ha
  have hro : ∀ a, a < mZ X → (fun a => if a < mZ X then ro a else 50) a = ro a := fun a ha => if_pos ha
  have B1 : BaseX A (fun a => if a < mZ X then ro a else 50) X' := B.fm hF fm rk hro (B.2.2.fm hF (B.k 4 0 0 (by decide)) fm hro (hP [4] (by decide) (by decide) (by decide) _ (by rw [B.o 4 0 0 (by decide)]; decide)))
  exact ⟨X', z1, ⟨g9, A, fun a => if a < mZ X then ro a else 50, pa, ea, wa, rfl, ⟨B1, D', P.fm B hF fm hro (hP _ (by decide) (by decide) (by decide)), E.fm B hF fm hro (hP _ (by decide) (by decide) (by decide)), Wk.fm B hF fm hro (hP _ (by decide) (by decide) (by decide)), Wl.fm B hF fm (hP _ (by decide) (by decide) (by decide)), Hg.fm Wk hF fm (hP _ (by decide) (by decide) (by decide))⟩⟩, ⟨pD.add a, pP, pE, pW, pL⟩, fm.1, fm.2.1⟩
theorem m_open (h : StX x K T V N n np G ne ew eo es nw wp we wc wo W H X) : ∃ d, mR X 1100 x = some d ∧ mK X d = some (1, 0) ∧ fX1_openBlocks X d = some (nI (br K n).length) ∧ fX1_length X d = some (nI n) := by
  obtain ⟨hF, A, ro, pa, ea, wa, rfl, B, ⟨oa, d1, d2, d3, d4⟩, -⟩ := h
  refine ⟨A 1, B.r 1100 0 1 (by decide), d1.1, ?_, ?_⟩
  · unfold fX1_openBlocks
    rw [if_pos d1.1, d3]
  · unfold fX1_length
    rw [if_pos d1.1, d1.2.2.2.1]
theorem m_tells {tj : Nat} (h : StX x K T V N n np G ne ew eo es nw wp we wc wo W H X) (ht : tj < 4) : ∃ d r, mR X 1100 x = some d ∧ mK X d = some (1, 0) ∧ fX1_tells X d (nI tj) = some r ∧ TF r (WdP K T n tj) := by
  obtain ⟨hF, A, ro, pa, ea, wa, rfl, B, ⟨oa, d1, d2, d3, d4⟩, -⟩ := h
  have k10 := B.k 10 21 4 (by decide)
  refine ⟨A 1, if aI X (A 10) tj = 0 then 0 else 1, B.r 1100 0 1 (by decide), d1.1, ?_, ?_⟩
  · unfold fX1_tells
    rw [if_neg (nI_pos (by omega)), if_pos d1.1, B.r 101 1 10 (by decide), bi_some, alen_of k10 (by decide), bi_some, if_neg (fun q => by have := (nI_leI (by omega) (by omega)).mp q; omega), bi_some, if_pos (inb_of (t := 1) k10 ht (by omega)), nI_clamp (by omega)]
    by_cases e : aI X (A 10) tj = 0
    · rw [if_pos e, if_pos e]
    · rw [if_neg e, if_neg e]
  · rcases d4 tj ht with ⟨e1, e2⟩ | ⟨e1, e2⟩
    · rw [e1, if_neg (by decide)]
      exact Or.inl ⟨rfl, e2⟩
    · rw [e1, if_pos rfl]
      exact Or.inr ⟨rfl, e2⟩
theorem x_valueI {v nm least : Int32} (hv : VaP v nm least) : fX11_checkValue X v nm least = some (.inr ()) := by
  have h : nm = 0 ∨ nm = 1 := hv.imp (fun z => z.1) (fun z => z.1)
  rcases x_value (X := X) (v := v) (least := least) h with ⟨-, e⟩ | ⟨⟨h1, h2⟩, -⟩ | ⟨⟨h1, h2⟩, -⟩
  · exact e
  · rcases hv with ⟨z, -⟩ | ⟨-, z⟩
    · rw [h1] at z
      exact absurd z (by decide)
    · exact absurd z h2
  · rcases hv with ⟨-, z⟩ | ⟨z, -⟩
    · exact absurd z h2
    · rw [h1] at z
      exact absurd z (by decide)
theorem x_nameI {v : Int32} (hv : NmP v) : fX11_checkName X v = some (.inr ()) := (x_name (X := X) v).elim (fun z => z.2) (fun z => absurd hv z.1)
theorem x_wnameI {v : Int32} (hv : NmP v) : fX11_checkWord X v = some (.inr ()) := (x_wname (X := X) v).elim (fun z => z.2) (fun z => absurd hv z.1)
theorem m_forward {v nm : Int32} (h : StX x K T V N n np G ne ew eo es nw wp we wc wo W H X) (hP : RelP K T V N n np G ne ew nw wp we wc wo W H) (hn : n < 30) (hv : VaP v nm 0) : ∃ X1, fX11_forward X x v nm = some (.inr (nI (n + 1), X1)) ∧ StX x (upN K n 0) (upN T n 0) (upN V n v) (upN N n nm) (n + 1) np G ne ew eo es nw wp we wc wo W H X1 ∧ RelP (upN K n 0) (upN T n 0) (upN V n v) (upN N n nm) (n + 1) np G ne ew nw wp we wc wo W H ∧ Keeps9 X X1 := by
  have hx := m_k h
  obtain ⟨X1, z1, z2, z3, z4⟩ := m_addO (k := 0) (t := 0) (v := v) (nn := nm) h hP ⟨hn, by decide, Nm0.r, hv.a (by decide), fun z => absurd z (by decide), fun z => absurd z (by decide)⟩
  unfold fX11_forward
  rw [x_valueI hv, bE_r, if_pos hx, z1, bEW_r]
  exact ⟨X1, rfl, z2, z3, z4⟩
theorem m_turn {v nm : Int32} (h : StX x K T V N n np G ne ew eo es nw wp we wc wo W H X) (hP : RelP K T V N n np G ne ew nw wp we wc wo W H) (hn : n < 30) (hv : VaP v nm 0) : ∃ X1, fX11_turn X x v nm = some (.inr (nI (n + 1), X1)) ∧ StX x (upN K n 1) (upN T n 0) (upN V n v) (upN N n nm) (n + 1) np G ne ew eo es nw wp we wc wo W H X1 ∧ RelP (upN K n 1) (upN T n 0) (upN V n v) (upN N n nm) (n + 1) np G ne ew nw wp we wc wo W H ∧ Keeps9 X X1 := by
  have hx := m_k h
  obtain ⟨X1, z1, z2, z3, z4⟩ := m_addO (k := 1) (t := 0) (v := v) (nn := nm) h hP ⟨hn, by decide, Nm0.r, hv.a (by decide), fun z => absurd z (by decide), fun z => absurd z (by decide)⟩
  unfold fX11_turn
  rw [x_valueI hv, bE_r, if_pos hx, z1, bEW_r]
  exact ⟨X1, rfl, z2, z3, z4⟩
theorem m_repeat {v nm : Int32} (h : StX x K T V N n np G ne ew eo es nw wp we wc wo W H X) (hP : RelP K T V N n np G ne ew nw wp we wc wo W H) (hn : n < 30) (hv : VaP v nm 0) : ∃ X1, fX11_repeat X x v nm = some (.inr (nI (n + 1), X1)) ∧ StX x (upN K n 5) (upN T n 0) (upN V n v) (upN N n nm) (n + 1) np G ne ew eo es nw wp we wc wo W H X1 ∧ RelP (upN K n 5) (upN T n 0) (upN V n v) (upN N n nm) (n + 1) np G ne ew nw wp we wc wo W H ∧ Keeps9 X X1 := by
  have hx := m_k h
  obtain ⟨X1, z1, z2, z3, z4⟩ := m_addO (k := 5) (t := 0) (v := v) (nn := nm) h hP ⟨hn, by decide, Nm0.r, hv.a (by decide), fun z => absurd z (by decide), fun z => absurd z (by decide)⟩
  unfold fX11_repeat
  rw [x_valueI hv, bE_r, if_pos hx, z1, bEW_r]
  exact ⟨X1, rfl, z2, z3, z4⟩
theorem m_set {t v nm : Int32} (h : StX x K T V N n np G ne ew eo es nw wp we wc wo W H X) (hP : RelP K T V N n np G ne ew nw wp we wc wo W H) (hn : n < 30) (ht : NmP t) (hv : VaP v nm (-99)) : ∃ X1, fX11_set X x t v nm = some (.inr (nI (n + 1), X1)) ∧ StX x (upN K n 3) (upN T n t) (upN V n v) (upN N n nm) (n + 1) np G ne ew eo es nw wp we wc wo W H X1 ∧ RelP (upN K n 3) (upN T n t) (upN V n v) (upN N n nm) (n + 1) np G ne ew nw wp we wc wo W H ∧ Keeps9 X X1 := by
  have hx := m_k h
  obtain ⟨X1, z1, z2, z3, z4⟩ := m_addO (k := 3) (t := t) (v := v) (nn := nm) h hP ⟨hn, by decide, ht.r, hv.a (by decide), fun z => absurd z (by decide), fun z => absurd z (by decide)⟩
  unfold fX11_set
  rw [x_nameI ht, bE_r, x_valueI hv, bE_r, if_pos hx, z1, bEW_r]
  exact ⟨X1, rfl, z2, z3, z4⟩
theorem m_add {t v nm : Int32} (h : StX x K T V N n np G ne ew eo es nw wp we wc wo W H X) (hP : RelP K T V N n np G ne ew nw wp we wc wo W H) (hn : n < 30) (ht : NmP t) (hv : VaP v nm (-99)) : ∃ X1, fX11_add X x t v nm = some (.inr (nI (n + 1), X1)) ∧ StX x (upN K n 4) (upN T n t) (upN V n v) (upN N n nm) (n + 1) np G ne ew eo es nw wp we wc wo W H X1 ∧ RelP (upN K n 4) (upN T n t) (upN V n v) (upN N n nm) (n + 1) np G ne ew nw wp we wc wo W H ∧ Keeps9 X X1 := by
  have hx := m_k h
  obtain ⟨X1, z1, z2, z3, z4⟩ := m_addO (k := 4) (t := t) (v := v) (nn := nm) h hP ⟨hn, by decide, ht.r, hv.a (by decide), fun z => absurd z (by decide), fun z => absurd z (by decide)⟩
  unfold fX11_add
  rw [x_nameI ht, bE_r, x_valueI hv, bE_r, if_pos hx, z1, bEW_r]
  exact ⟨X1, rfl, z2, z3, z4⟩
theorem m_call {t : Int32} (h : StX x K T V N n np G ne ew eo es nw wp we wc wo W H X) (hP : RelP K T V N n np G ne ew nw wp we wc wo W H) (hn : n < 30) (ht : NmP t) : ∃ X1, fX11_call X x t = some (.inr (nI (n + 1), X1)) ∧ StX x (upN K n 7) (upN T n t) (upN V n 0) (upN N n 0) (n + 1) np G ne ew eo es nw wp we wc wo W H X1 ∧ RelP (upN K n 7) (upN T n t) (upN V n 0) (upN N n 0) (n + 1) np G ne ew nw wp we wc wo W H ∧ Keeps9 X X1 := by
  have hx := m_k h
  obtain ⟨X1, z1, z2, z3, z4⟩ := m_addO (k := 7) (t := t) (v := 0) (nn := 0) h hP ⟨hn, by decide, ht.r, Or.inl ⟨rfl, by decide, by decide⟩, fun z => absurd z (by decide), fun z => absurd z (by decide)⟩
  unfold fX11_call
  rw [x_wnameI ht, bE_r, if_pos hx, z1, bEW_r]
  exact ⟨X1, rfl, z2, z3, z4⟩
theorem m_pen {q : Int32} (h : StX x K T V N n np G ne ew eo es nw wp we wc wo W H X) (hP : RelP K T V N n np G ne ew nw wp we wc wo W H) (hn : n < 30) (hq : q = 0 ∨ q = 1) : ∃ X1 v, fX11_pen X x q = some (.inr (nI (n + 1), X1)) ∧ StX x (upN K n 2) (upN T n 0) (upN V n v) (upN N n 0) (n + 1) np G ne ew eo es nw wp we wc wo W H X1 ∧ RelP (upN K n 2) (upN T n 0) (upN V n v) (upN N n 0) (n + 1) np G ne ew nw wp we wc wo W H ∧ Keeps9 X X1 := by
  have hx := m_k h
  have cls : ∀ v : Int32, (v = 0 ∨ v = 1) → ∃ X1, fX11_pen_L12 X x 2 0 v = some (.inr (nI (n + 1), X1)) ∧ StX x (upN K n 2) (upN T n 0) (upN V n v) (upN N n 0) (n + 1) np G ne ew eo es nw wp we wc wo W H X1 ∧ RelP (upN K n 2) (upN T n 0) (upN V n v) (upN N n 0) (n + 1) np G ne ew nw wp we wc wo W H ∧ Keeps9 X X1 := by
    intro v hv
    have h99 : -99 ≤ v ∧ v ≤ 99 := by rcases hv with rfl | rfl <;> decide
    obtain ⟨X1, z1, z2, z3, z4⟩ := m_addO (k := 2) (t := 0) (v := v) (nn := 0) h hP ⟨hn, by decide, Nm0.r, Or.inl ⟨rfl, h99⟩, fun z => absurd z (by decide), fun z => absurd z (by decide)⟩
    unfold fX11_pen_L12
    rw [if_pos hx, z1, bEW_r]
    exact ⟨X1, rfl, z2, z3, z4⟩
  unfold fX11_pen
  rcases hq with e | e
  · rw [if_pos e]
    obtain ⟨X1, z⟩ := cls 0 (Or.inl rfl)
    exact ⟨X1, 0, z⟩
  · rw [if_neg (by rw [e]; decide)]
    obtain ⟨X1, z⟩ := cls 1 (Or.inr rfl)
    exact ⟨X1, 1, z⟩
theorem m_word {tj : Nat} (h : StX x K T V N n np G ne ew eo es nw wp we wc wo W H X) (hP : RelP K T V N n np G ne ew nw wp we wc wo W H) (hn : n < 30) (ht : tj < 4) (hb : br K n = []) (hw : ¬ WdP K T n tj) : ∃ X1, fX11_word X x (nI tj) = some (.inr (nI (n + 1), X1)) ∧ StX x (upN K n 6) (upN T n (nI tj)) (upN V n 0) (upN N n 0) (n + 1) np G ne ew eo es nw wp we wc wo W H X1 ∧ RelP (upN K n 6) (upN T n (nI tj)) (upN V n 0) (upN N n 0) (n + 1) np G ne ew nw wp we wc wo W H ∧ Keeps9 X X1 := by
  have hx := m_k h
  obtain ⟨X1, z1, z2, z3, z4⟩ := m_addO (k := 6) (t := nI tj) (v := 0) (nn := 0) h hP ⟨hn, by decide, NmP.r ⟨tj, ht, rfl⟩, Or.inl ⟨rfl, by decide, by decide⟩, fun z => absurd z (by decide), fun _ => ⟨hb, fun i hi h6 e => hw ⟨i, hi, h6, e⟩⟩⟩
  obtain ⟨d, o1, o2, o3, -⟩ := m_open h
  obtain ⟨d', r, p1, p2, p3, p4⟩ := m_tells h ht
  have ed : d' = d := Option.some.inj (p1.symm.trans o1)
  subst ed
  have er : r = 0 := p4.elim (fun z => absurd z.2 hw) (fun z => z.1)
  unfold fX11_word
  rw [x_wnameI ⟨tj, ht, rfl⟩, bE_r, if_pos hx, p1, bi_some, if_pos p2, o3, hb, bi_some, if_neg (show ¬ (0 : Int32) < nI ([] : List Nat).length by decide), bi_some, if_pos p2, p3, bi_some, if_pos er, z1, bEW_r]
  exact ⟨X1, rfl, z2, z3, z4⟩
theorem m_end (h : StX x K T V N n np G ne ew eo es nw wp we wc wo W H X) (hP : RelP K T V N n np G ne ew nw wp we wc wo W H) (hn : n < 30) (hb : br K n ≠ []) : ∃ X1, fX11_end X x = some (.inr (nI ((br K n).length - 1), X1)) ∧ StX x (upN K n 8) (upN T n 0) (upN V n 0) (upN N n 0) (n + 1) np G ne ew eo es nw wp we wc wo W H X1 ∧ RelP (upN K n 8) (upN T n 0) (upN V n 0) (upN N n 0) (n + 1) np G ne ew nw wp we wc wo W H ∧ Keeps9 X X1 := by
  have hx := m_k h
  have hl := br_len (K := K) n
  have h0 : 0 < (br K n).length := Nat.pos_of_ne_zero (fun z => hb (List.eq_nil_of_length_eq_zero z))
  obtain ⟨X1, z1, z2, z3, z4⟩ := m_addO (k := 8) (t := 0) (v := 0) (nn := 0) h hP ⟨hn, by decide, Nm0.r, Or.inl ⟨rfl, by decide, by decide⟩, fun _ => hb, fun z => absurd z (by decide)⟩
  obtain ⟨d, o1, o2, o3, -⟩ := m_open h
  obtain ⟨d', p1, p2, p3, -⟩ := m_open z2
  unfold fX11_end
  rw [if_pos hx, o1, bi_some, if_pos o2, o3, bi_some, if_pos (show (0 : Int32) < nI (br K n).length from (nI_ltI (a := 0) (by omega) (by omega)).mpr h0), z1, bEW_r, if_pos (m_k z2), p1, bi_some, if_pos p2, p3, bi_some, br_opn]
  exact ⟨X1, rfl, z2, z3, z4⟩
/-- the draft is emptied -/
theorem x_told {fu d tl : Nat} : ∀ (t i m : Nat) (X : Mem), i + t = 4 → mK X d = some (1, 0) → mR X 101 d = some tl → mK X tl = some (21, 4) → (∀ j, j < i → aI X tl j = 0) → ∃ X', fX1_makeEmpty_L12 fu (m + t + 1) X d (nI i) = some X' ∧ AFr tl X X' ∧ ∀ j, j < 4 → aI X' tl j = 0 := by
  intro t
  induction t with
  | zero =>
    intro i m X hi h1 h2 h3 h4
    have hi : i = 4 := hi
    subst hi
    refine ⟨X, ?_, AFr.rfl9, h4⟩
    show fX1_makeEmpty_L12b fu (fX1_makeEmpty_L12 fu m) X d (nI 4) = _
    unfold fX1_makeEmpty_L12b
    rw [if_pos h1, h2, bi_some, alen_of h3 (by decide), bi_some, if_pos (Int32.le_refl _)]
  | succ t ih =>
    intro i m X hi h1 h2 h3 h4
    show ∃ X', fX1_makeEmpty_L12b fu (fX1_makeEmpty_L12 fu (m + t + 1)) X d (nI i) = some X' ∧ _
    unfold fX1_makeEmpty_L12b
    rw [if_pos h1, h2, bi_some, alen_of h3 (by decide), bi_some, if_neg (fun q => by have := (nI_leI (by omega) (by omega)).mp q; omega), bi_some, if_pos (inb_of (t := 1) h3 (by omega : i < 4) (by omega)), nI_clamp (by omega), nI_1]
    obtain ⟨X', z1, z2, z3⟩ := ih (i + 1) m (sI X tl i 0) (by omega) h1 h2 h3 (fun j hj => by
      rw [aI_sI]
      by_cases e : j = i
      · rw [if_pos ⟨rfl, e⟩]
      · rw [if_neg (fun q => e q.2)]
        exact h4 j (by omega))
    exact ⟨X', z1, AFr.sI.trans z2, z3⟩
end MD
theorem x_wipe {fu : Nat} {A ro : Nat → Nat} {K T V N : Nat → Int32} {X : Mem} (hfu : 100 ≤ fu) (B : BaseX A ro X) : ∃ X', fX1_makeEmpty fu X (A 1) = some X' ∧ Fm (fun b => b = A 1 ∨ b = A 10) X X' ∧ mR X' = mR X ∧ mK X' = mK X ∧ mZ X' = mZ X ∧ DrfX A ro K T V N 0 X' := by
  have h1 := B.k 1 1 0 (by decide)
  have h10 := B.k 10 21 4 (by decide)
  obtain ⟨X', z1, z2, z3⟩ := x_told (fu := fu) (d := A 1) (tl := A 10) 4 0 (fu - 5) (wI (wI X 102 (A 1) 0) 103 (A 1) 0) rfl h1 (B.r 101 1 10 (by decide)) h10 (fun j hj => absurd hj (Nat.not_lt_zero j))
  rw [show fu - 5 + 4 + 1 = fu by omega] at z1
  refine ⟨X', by unfold fX1_makeEmpty; rw [if_pos h1]; exact z1, ?_, z2.2.2.1, z2.1, z2.2.2.2.2.2.1, fun _ => 0, ⟨by rw [z2.1]; exact h1, by rw [z2.2.2.1]; exact B.r 100 1 9 (by decide), by rw [z2.1]; exact B.k 9 23 30 (by decide), ?_, fun i hi => absurd hi (Nat.not_lt_zero i)⟩, fun i hi => absurd hi (Nat.not_lt_zero i), ?_, fun t ht => Or.inr ⟨z3 t ht, fun ⟨i, hi, _⟩ => Nat.not_lt_zero i hi⟩⟩
  · exact Fm.trans (P := fun b => b = A 1 ∨ b = A 10) (Fm.trans (P := fun b => b = A 1 ∨ b = A 10) (Fm.wI (Or.inl (Or.inl rfl))) (Fm.wI (Or.inl (Or.inl rfl)))) (z2.nfr.fm.mono (fun b _ z => Or.inr z))
  · rw [z2.2.1, mI_wI, if_neg (by omega), mI_wI, if_pos ⟨rfl, rfl⟩]
    rfl
  · rw [z2.2.1, mI_wI, if_pos ⟨rfl, rfl⟩]
    rfl
theorem DrfP_0 {K T V N : Nat → Int32} : DrfP K T V N 0 := ⟨by omega, fun i hi => absurd hi (Nat.not_lt_zero i), fun i hi => absurd hi (Nat.not_lt_zero i), fun i hi => absurd hi (Nat.not_lt_zero i), fun i hi => absurd hi (Nat.not_lt_zero i), fun i j hi => absurd hi (Nat.not_lt_zero i)⟩
section ME
variable {fu x : Nat} {K T V N : Nat → Int32} {n np : Nat} {G : Nat → Pg} {ne : Nat} {ew : Nat → Nat} {eo es : Nat → Int32} {nw : Nat} {wp we : Nat → Nat} {wc : Nat → Int32} {wo : Nat → Option Nat} {W H : Nat} {X : Mem}
theorem m_wipe (hfu : 5000 ≤ fu) (h : StX x K T V N n np G ne ew eo es nw wp we wc wo W H X) (hP : RelP K T V N n np G ne ew nw wp we wc wo W H) : ∃ X1, fX11_wipe fu X x = some (nI n, X1) ∧ StX x K T V N 0 np G ne ew eo es nw wp we wc wo W H X1 ∧ RelP K T V N 0 np G ne ew nw wp we wc wo W H ∧ Keeps9 X X1 := by
  obtain ⟨hF, A, ro, pa, ea, wa, rfl, B, D, P, E, Wk, Wl, Hg⟩ := h
  obtain ⟨pD, pP, pE, pW, pL⟩ := hP
  have b1 := pP.1
  have hne := pE.1
  have hnw := pW.1
  have hx := B.k 0 11 0 (by decide)
  obtain ⟨X', z1, fm, z3, z4, z5, z6⟩ := x_wipe (fu := fu) (K := K) (T := T) (V := V) (N := N) (by omega) B
  obtain ⟨oa, d1, -⟩ := D
  have hP : ∀ (L : List Nat), 1 ∉ L → 10 ∉ L → ∀ a, ro a ∈ L → ¬ (a = A 1 ∨ a = A 10) := by
    rintro L h1 h2 a ha (z | z)
    · rw [z, B.o 1 1 0 (by decide)] at ha; exact h1 ha
    · rw [z, B.o 10 21 4 (by decide)] at ha; exact h2 ha
  have id9 : ∀ a, a < mZ X → ro a = ro a := fun _ _ => rfl
  have B1 : BaseX A ro X' := B.fm hF fm (RfK.of z3) id9 (B.2.2.fm hF (B.k 4 0 0 (by decide)) fm id9 (hP [4] (by decide) (by decide) _ (by rw [B.o 4 0 0 (by decide)]; decide)))
  unfold fX11_wipe fX1_length
  rw [if_pos hx, B.r 1100 0 1 (by decide), bi_some, if_pos d1.1, if_pos d1.1, bi_some, bi_some, if_pos d1.1, z1, bi_some, d1.2.2.2.1]
  exact ⟨X', rfl, ⟨hF.cg z4 z5, A, ro, pa, ea, wa, rfl, B1, z6, P.fm B hF fm id9 (hP _ (by decide) (by decide)), E.fm B hF fm id9 (hP _ (by decide) (by decide)), Wk.fm B hF fm id9 (hP _ (by decide) (by decide)), Wl.fm B hF fm (hP _ (by decide) (by decide)), Hg.fm Wk hF fm (hP _ (by decide) (by decide))⟩, ⟨DrfP_0, pP, pE, pW, pL⟩, by rw [z5]; exact Nat.le_refl _, fun a _ => by rw [z4]⟩
end ME
