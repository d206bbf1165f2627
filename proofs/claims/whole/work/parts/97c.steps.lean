/-! strokesBySteps: a run anew -/
theorem x_clean {fu d r u : Nat} (hru : r ≠ u) : ∀ (t i m : Nat) (X : Mem), i + t = 16 → mK X d = some (2, 0) → mR X 200 d = some r → mR X 201 d = some u → mK X r = some (20, 16) → mK X u = some (20, 16) → (∀ j, j < i → aI X r j = 0 ∧ aI X u j = 0) → ∃ X', fX2_makeEmpty_L7 fu (m + t + 1) X d (nI i) = some X' ∧ NFr (fun b => b = r ∨ b = u) X X' ∧ (∀ k b, mI X' k b = mI X k b) ∧ ∀ j, j < 16 → aI X' r j = 0 ∧ aI X' u j = 0 := by
  intro t
  induction t with
  | zero =>
    intro i m X hi h1 h2 h3 h4 h5 h6
    have hi : i = 16 := hi
    subst hi
    refine ⟨X, ?_, NFr.rfl9, fun _ _ => rfl, h6⟩
    show fX2_makeEmpty_L7b fu (fX2_makeEmpty_L7 fu m) X d (nI 16) = _
    unfold fX2_makeEmpty_L7b
    rw [if_pos (by decide)]
  | succ t ih =>
    intro i m X hi h1 h2 h3 h4 h5 h6
    show ∃ X', fX2_makeEmpty_L7b fu (fX2_makeEmpty_L7 fu (m + t + 1)) X d (nI i) = some X' ∧ _
    unfold fX2_makeEmpty_L7b
    have ir : inb X 0 r (nI i) = true := inb_of (t := 0) h4 (by omega) (by omega)
    have iu : inb (sI X r i 0) 0 u (nI i) = true := inb_of (X := sI X r i 0) (t := 0) h5 (by omega) (by omega)
    have r2 : mR (sI X r i 0) 201 d = some u := h3
    rw [if_neg (show ¬ (16 : Int32) ≤ nI i from fun q => by have := (nI_leI (by omega : 16 < 2 ^ 31) (by omega)).mp q; omega), if_pos h1, h2, bi_some, alen_of h4 (by decide), bi_some, if_neg (fun q => by have := (nI_leI (by omega) (by omega)).mp q; omega), h3, bi_some, alen_of h5 (by decide), bi_some, if_neg (fun q => by have := (nI_leI (by omega) (by omega)).mp q; omega), bi_some, if_pos ir, nI_clamp (by omega), r2, bi_some, if_pos iu, nI_1]
    have fr : NFr (fun b => b = r ∨ b = u) X (sI (sI X r i 0) u i 0) := NFr.trans (P := fun b => b = r ∨ b = u) (NFr.sI (Or.inl rfl)) (NFr.sI (Or.inr rfl))
    obtain ⟨X', z1, z2, z3, z4⟩ := ih (i + 1) m (sI (sI X r i 0) u i 0) (by omega) h1 h2 h3 h4 h5 (fun j hj => by
      rw [aI_sI, aI_sI, aI_sI, aI_sI]
      by_cases e : j = i
      · rw [if_neg (fun z => hru z.1), if_pos ⟨rfl, e⟩, if_pos ⟨rfl, e⟩]
        exact ⟨rfl, rfl⟩
      · rw [if_neg (fun z => e z.2), if_neg (fun z => e z.2), if_neg (fun z => e z.2), if_neg (fun z => e z.2)]
        exact h6 j (by omega))
    exact ⟨X', z1, fr.trans z2, fun k b => (z3 k b).trans (by rw [mI_sI, mI_sI]), z4⟩
/-- the addresses of a run -/
def gA (A : Nat → Nat) (dr ra ua pr os pa wa : Nat) (oa : Nat → Nat) : Nat → Nat := fun i => if 20 ≤ i then oa (i - 20) else if i = 0 then A 2 else if i = 1 then A 11 else if i = 2 then A 12 else if i = 3 then A 13 else if i = 4 then A 14 else if i = 5 then dr else if i = 6 then ra else if i = 7 then ua else if i = 8 then pr else if i = 9 then os else if i = 10 then pa else wa
theorem gA_o {A : Nat → Nat} {dr ra ua pr os pa wa : Nat} {oa : Nat → Nat} {i : Nat} : gA A dr ra ua pr os pa wa oa (20 + i) = oa i := by
  unfold gA
  rw [if_pos (by omega), show 20 + i - 20 = i by omega]
theorem RG_of {A ro : Nat → Nat} {dr ra ua pr os pa wa n : Nat} {oa : Nat → Nat} {K T V N : Nat → Int32} {X : Mem} (B : BaseX A ro X) (h : PG pr os pa oa K T V N n X) (h1 : mR X 503 pr = some wa) (h2 : mK X wa = some (20, 4)) (h3 : mK X dr = some (2, 0)) (h4 : mR X 200 dr = some ra) (h5 : mR X 201 dr = some ua) (h6 : mK X ra = some (20, 16)) (h7 : mK X ua = some (20, 16)) (h8 : ∀ o, o < n → (K o = 5 ∨ K o = 6) → aI X pa o = nI (clG K n o) ∧ aI X pa (clG K n o) = nI o) (h9 : ∀ t, t < 4 → aI X wa t = oW (wsF K T n (nI t))) (hd : RGd (gA A dr ra ua pr os pa wa oa)) (hdr : dr ≠ A 2) : RG (gA A dr ra ua pr os pa wa oa) K T V N n (clG K n) (wsF K T n) (wR X 704 (A 2) (some dr)) := by
  have rr : ∀ k a, k ≠ 704 → mR (wR X 704 (A 2) (some dr)) k a = mR X k a := fun k a hk => by rw [mR_wR, if_neg (fun z => hk z.1)]
  refine ⟨⟨B.k 2 7 0 (by decide), B.k 11 8 0 (by decide), B.k 12 20 4 (by decide), B.k 13 20 270 (by decide), B.k 14 20 8 (by decide), h3, h6, h7, h.1, h.2.2.2.1, h.2.2.2.2.1, h2⟩, ⟨?_, ?_, ?_, ?_, ?_, ?_, ?_, ?_, ?_, ?_⟩, fun i hi => ?_, ⟨h8, h9⟩, hd⟩
  · show mR (wR X 704 (A 2) (some dr)) 700 (A 2) = some (A 11)
    rw [rr _ _ (by omega)]; exact B.r 700 2 11 (by decide)
  · show mR (wR X 704 (A 2) (some dr)) 701 (A 2) = some (A 12)
    rw [rr _ _ (by omega)]; exact B.r 701 2 12 (by decide)
  · show mR (wR X 704 (A 2) (some dr)) 702 (A 2) = some (A 13)
    rw [rr _ _ (by omega)]; exact B.r 702 2 13 (by decide)
  · show mR (wR X 704 (A 2) (some dr)) 703 (A 2) = some (A 14)
    rw [rr _ _ (by omega)]; exact B.r 703 2 14 (by decide)
  · show mR (wR X 704 (A 2) (some dr)) 704 (A 2) = some dr
    rw [mR_wR, if_pos ⟨rfl, rfl⟩]
  · show mR (wR X 704 (A 2) (some dr)) 200 dr = some ra
    rw [rr _ _ (by omega)]; exact h4
  · show mR (wR X 704 (A 2) (some dr)) 201 dr = some ua
    rw [rr _ _ (by omega)]; exact h5
  · show mR (wR X 704 (A 2) (some dr)) 501 pr = some os
    rw [rr _ _ (by omega)]; exact h.2.1
  · show mR (wR X 704 (A 2) (some dr)) 502 pr = some pa
    rw [rr _ _ (by omega)]; exact h.2.2.1
  · show mR (wR X 704 (A 2) (some dr)) 503 pr = some wa
    rw [rr _ _ (by omega)]; exact h1
  · rw [gA_o]
    exact h.2.2.2.2.2 i hi
/-- what a run leaves of the class's memory -/
theorem FR.fm {A : Nat → Nat} {dr ra ua pr os pa wa : Nat} {oa : Nat → Nat} {X X1 : Mem} (h : FR (gA A dr ra ua pr os pa wa oa) (wR X 704 (A 2) (some dr)) X1) : Fm (fun b => b = A 2 ∨ b = dr ∨ b = A 12 ∨ b = A 13 ∨ b = A 14 ∨ b = ra ∨ b = ua) X X1 ∧ RfK X X1 := by
  obtain ⟨f1, f2, f3, f4, f5, f6, f7, f8⟩ := h
  refine ⟨⟨by rw [f5]; exact Nat.le_refl _, fun a _ => by rw [f1]; rfl, fun a _ hp => ⟨fun k hk => ?_, fun k => ?_, ?_, by rw [f3]; rfl, by rw [f4]; rfl⟩⟩, fun a _ k _ h7 => by rw [f2, mR_wR, if_neg (fun z => h7 z.1)]⟩
  · by_cases e : k ≤ 206
    · exact f7 k a (fun z => hp (Or.inr (Or.inl z))) e
    · exact f6 k a (by omega) (by omega) (by omega)
  · rw [f2, mR_wR, if_neg (fun z => hp (Or.inl z.2))]
  · exact f8 a (fun z => hp (Or.inr (Or.inr (Or.inl z)))) (fun z => hp (Or.inr (Or.inr (Or.inr (Or.inl z))))) (fun z => hp (Or.inr (Or.inr (Or.inr (Or.inr (Or.inl z)))))) (fun z => hp (Or.inr (Or.inr (Or.inr (Or.inr (Or.inr (Or.inl z))))))) (fun z => hp (Or.inr (Or.inr (Or.inr (Or.inr (Or.inr (Or.inr z)))))))
theorem RGd_of {A : Nat → Nat} {dr ra ua pr os pa wa : Nat} {oa : Nat → Nat} (f : Nat → Nat) (h2 : f (A 12) = 1) (h3 : f (A 13) = 2) (h4 : f (A 14) = 3) (h5 : f ra = 4) (h6 : f ua = 5) (h7 : f pa = 6) (h8 : f wa = 7) : RGd (gA A dr ra ua pr os pa wa oa) := by
  intro i hi j hj e
  have k2 : gA A dr ra ua pr os pa wa oa 2 = A 12 := rfl
  have k3 : gA A dr ra ua pr os pa wa oa 3 = A 13 := rfl
  have k4 : gA A dr ra ua pr os pa wa oa 4 = A 14 := rfl
  have k6 : gA A dr ra ua pr os pa wa oa 6 = ra := rfl
  have k7 : gA A dr ra ua pr os pa wa oa 7 = ua := rfl
  have k10 : gA A dr ra ua pr os pa wa oa 10 = pa := rfl
  have k11 : gA A dr ra ua pr os pa wa oa 11 = wa := rfl
  have e2 := congrArg f e
  simp only [List.mem_cons, List.not_mem_nil, or_false] at hi hj
  rcases hi with rfl | rfl | rfl | rfl | rfl | rfl | rfl <;> rcases hj with rfl | rfl | rfl | rfl | rfl | rfl | rfl <;> simp only [k2, k3, k4, k6, k7, k10, k11, h2, h3, h4, h5, h6, h7, h8] at e2 <;> omega
theorem QC.all {p : Nat} {S : SM} {s : Cor} (h : QC p S s) : sc S 26 = cF s ∧ sc S 25 = nI (cC s) ∧ (∀ j, j < 16 → ar S 13 (16 * p + j) = cR s j) ∧ (∀ j, j < 16 → ar S 14 (16 * p + j) = cU s j) ∧ ∀ j, j ≤ cC s → ar S 18 j = cS s j := by
  obtain ⟨x, y, h9, d, f, c, nm, R, U, sa⟩ := s
  obtain ⟨q1, q2, q3, q4, q5, q6, q7, q8, q9, q10⟩ := h
  exact ⟨q5, q6, q8, q9, q10⟩
theorem CQ.all {g : Nat → Nat} {ms : Nat} {X : Mem} {s : Cor} (h : CQ g ms X s) : mI X 708 (g 0) = cF s ∧ mI X 707 (g 0) = nI (cC s) ∧ (∀ j, j < 16 → aI X (g 6) j = cR s j) ∧ (∀ j, j < 16 → aI X (g 7) j = cU s j) ∧ mI X 202 (g 5) = cS s (cC s) ∧ Box (cC s) (cR s) (cU s) (cS s (cC s)) (mI X 203 (g 5)) (mI X 204 (g 5)) (mI X 205 (g 5)) (mI X 206 (g 5)) := by
  obtain ⟨x, y, h9, d, f, c, nm, R, U, sa⟩ := s
  obtain ⟨q1, q2, q3, q4, q5, q6, q7, q8, q9, q10, q11, q12⟩ := h
  exact ⟨q5, q6, q9, q10, q11, q12⟩
