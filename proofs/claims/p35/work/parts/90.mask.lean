/-! WHAT THE CLASS ANSWERS, in numbers: what is asked -/
theorem bE_r {α β : Type} {a : α} {k : α → Option (String ⊕ β)} : bE (some (.inr a)) k = k a := rfl
theorem bE_l {α β : Type} {E : String} {k : α → Option (String ⊕ β)} : bE (some (.inl E)) k = some (.inl E) := rfl
theorem bEW_r {α β γ : Type} {a : α} {b : β} {k : α → β → Option (String ⊕ γ)} : bEW (some (.inr (a, b))) k = k a b := rfl
theorem bEW_l {α β γ : Type} {E : String} {k : α → β → Option (String ⊕ γ)} : bEW (some (.inl E)) k = some (.inl E) := rfl
theorem TF_un {r r' : Int32} {P : Prop} (h : TF r P) (k : TF r' P) : r = r' := by
  rcases h with ⟨rfl, h⟩ | ⟨rfl, h⟩ <;> rcases k with ⟨rfl, k⟩ | ⟨rfl, k⟩
  · rfl
  · exact absurd h k
  · exact absurd k h
  · rfl
theorem TF.b {r : Int32} {P : Prop} (h : TF r P) : r = 0 ∨ r = 1 := h.elim (fun q => Or.inr q.1) (fun q => Or.inl q.1)
theorem K9 {X : Mem} : Keeps9 X X := ⟨Nat.le_refl _, fun _ _ => rfl⟩
section ASK
variable {fu : Nat} {A ro pa ea wa : Nat → Nat} {K T V N : Nat → Int32} {n np : Nat} {G : Nat → Pg} {ne : Nat} {ew : Nat → Nat} {eo es : Nat → Int32} {nw : Nat} {wp we : Nat → Nat} {wc : Nat → Int32} {wo : Nat → Option Nat} {W H : Nat} {X : Mem} {S : SM}
theorem x_prog (B : BaseX A ro X) (P : PrsX A ro pa np G X) (hn : np ≤ 30) (v : Int32) : (∃ p, p < np ∧ v = nI p ∧ fX11_programAt X (A 0) v = some (.inr (some (pa p)))) ∨ ((¬ ∃ j, j < np ∧ v = nI j) ∧ fX11_programAt X (A 0) v = some (.inl "java/lang/IndexOutOfBoundsException")) := by
  have hx := B.k 0 11 0 (by decide)
  have hno : fX11_programAt_L30 X none = some (.inl "java/lang/IndexOutOfBoundsException") := if_pos rfl
  unfold fX11_programAt
  rcases pk_ix v (show np < 2 ^ 31 by omega) with h | h | ⟨j, hj, rfl⟩
  · refine Or.inr ⟨?_, by rw [if_pos h, hno]⟩
    rintro ⟨j, hj, rfl⟩
    exact nI_pos (by omega) h
  · refine Or.inr ⟨?_, ?_⟩
    · rintro ⟨j, hj, rfl⟩
      have := (nI_leI (by omega) (by omega)).mp h
      omega
    · by_cases h0 : v < 0
      · rw [if_pos h0, hno]
      · rw [if_neg h0, if_pos hx, P.1, if_pos h, hno]
  · refine Or.inl ⟨j, hj, rfl, ?_⟩
    obtain ⟨a1, a2⟩ := P.2 j hj
    rw [if_neg (nI_pos (by omega)), if_pos hx, P.1, if_neg (fun q => by have := (nI_leI (by omega) (by omega)).mp q; omega), B.r 1105 0 6 (by decide), bi_some, alen_of (B.k 6 24 30 (by decide)) (by decide), bi_some, if_neg (fun q => by have := (nI_leI (by omega) (by omega)).mp q; omega), bi_some, if_pos (inb_of (t := 4) (B.k 6 24 30 (by decide)) (by omega : j < 30) (by omega)), nI_clamp (by omega), a1]
    unfold fX11_programAt_L30
    rw [if_neg (by exact fun q => nomatch q)]
theorem x_exer (B : BaseX A ro X) (P : ExsX A ro pa ea ne ew eo es X) (hn : ne ≤ 6) (v : Int32) : (∃ p, p < ne ∧ v = nI p ∧ fX11_exerciseAt X (A 0) v = some (.inr (some (ea p)))) ∨ ((¬ ∃ j, j < ne ∧ v = nI j) ∧ fX11_exerciseAt X (A 0) v = some (.inl "java/lang/IndexOutOfBoundsException")) := by
  have hx := B.k 0 11 0 (by decide)
  have hno : fX11_exerciseAt_L30 X none = some (.inl "java/lang/IndexOutOfBoundsException") := if_pos rfl
  unfold fX11_exerciseAt
  rcases pk_ix v (show ne < 2 ^ 31 by omega) with h | h | ⟨j, hj, rfl⟩
  · refine Or.inr ⟨?_, by rw [if_pos h, hno]⟩
    rintro ⟨j, hj, rfl⟩
    exact nI_pos (by omega) h
  · refine Or.inr ⟨?_, ?_⟩
    · rintro ⟨j, hj, rfl⟩
      have := (nI_leI (by omega) (by omega)).mp h
      omega
    · by_cases h0 : v < 0
      · rw [if_pos h0, hno]
      · rw [if_neg h0, if_pos hx, P.1, if_pos h, hno]
  · refine Or.inl ⟨j, hj, rfl, ?_⟩
    obtain ⟨a1, a2⟩ := P.2.2 j hj
    rw [if_neg (nI_pos (by omega)), if_pos hx, P.1, if_neg (fun q => by have := (nI_leI (by omega) (by omega)).mp q; omega), B.r 1106 0 7 (by decide), bi_some, alen_of (B.k 7 25 6 (by decide)) (by decide), bi_some, if_neg (fun q => by have := (nI_leI (by omega) (by omega)).mp q; omega), bi_some, if_pos (inb_of (t := 5) (B.k 7 25 6 (by decide)) (by omega : j < 6) (by omega)), nI_clamp (by omega), a1]
    unfold fX11_exerciseAt_L30
    rw [if_neg (by exact fun q => nomatch q)]
theorem x_work (B : BaseX A ro X) (P : WksX A ro pa ea wa nw wp we wc wo X) (hn : nw ≤ 24) (v : Int32) : (∃ p, p < nw ∧ v = nI p ∧ fX11_workAt X (A 0) v = some (.inr (some (wa p)))) ∨ ((¬ ∃ j, j < nw ∧ v = nI j) ∧ fX11_workAt X (A 0) v = some (.inl "java/lang/IndexOutOfBoundsException")) := by
  have hx := B.k 0 11 0 (by decide)
  have hno : fX11_workAt_L30 X none = some (.inl "java/lang/IndexOutOfBoundsException") := if_pos rfl
  unfold fX11_workAt
  rcases pk_ix v (show nw < 2 ^ 31 by omega) with h | h | ⟨j, hj, rfl⟩
  · refine Or.inr ⟨?_, by rw [if_pos h, hno]⟩
    rintro ⟨j, hj, rfl⟩
    exact nI_pos (by omega) h
  · refine Or.inr ⟨?_, ?_⟩
    · rintro ⟨j, hj, rfl⟩
      have := (nI_leI (by omega) (by omega)).mp h
      omega
    · by_cases h0 : v < 0
      · rw [if_pos h0, hno]
      · rw [if_neg h0, if_pos hx, P.1, if_pos h, hno]
  · refine Or.inl ⟨j, hj, rfl, ?_⟩
    obtain ⟨a1, a2⟩ := P.2.2 j hj
    rw [if_neg (nI_pos (by omega)), if_pos hx, P.1, if_neg (fun q => by have := (nI_leI (by omega) (by omega)).mp q; omega), B.r 1107 0 8 (by decide), bi_some, alen_of (B.k 8 26 24 (by decide)) (by decide), bi_some, if_neg (fun q => by have := (nI_leI (by omega) (by omega)).mp q; omega), bi_some, if_pos (inb_of (t := 6) (B.k 8 26 24 (by decide)) (by omega : j < 24) (by omega)), nI_clamp (by omega), a1]
    unfold fX11_workAt_L30
    rw [if_neg (by exact fun q => nomatch q)]
end ASK
theorem DrA.stroke {dr ra ua k a b c d j : Nat} {R U : Nat → Int32} {X : Mem} {x u : Int32} (h : DrA dr ra ua k a b c d R U X) (hx : onG x) (hj : j < 16) : fX2_hasStroke X dr x (nI j) u = some (if bit1 (if u = 0 then R j else U j) x = 1 then 1 else 0) := by
  obtain ⟨a1, a2, a3, a4, a5, a6, a7, a8, a9⟩ := h
  have l15 : ∀ (r : Nat) (F : Nat → Int32), mK X r = some (20, 16) → (∀ j, j < 16 → aI X r j = F j) → fX2_hasStroke_L15 X x (nI j) (some r) = some (if bit1 (F j) x = 1 then 1 else 0) := by
    intro r F k1 k2
    unfold fX2_hasStroke_L15
    rw [c_onG, bi_some, if_pos hx, if_neg (by decide), if_neg (nI_pos (by omega)), bi_some, alen_of k1 (by decide), bi_some, if_neg (fun q => by have := (nI_leI (by omega) (by omega)).mp q; omega), if_pos (inb_of (t := 0) k1 hj (by omega)), nI_clamp (by omega), k2 j hj]
    by_cases e : bit1 (F j) x = 1
    · rw [if_pos (show (F j >>> (x &&& 31)) &&& 1 = 1 from e), if_pos e]
    · rw [if_neg (show ¬ (F j >>> (x &&& 31)) &&& 1 = 1 from e), if_neg e]
  unfold fX2_hasStroke
  by_cases e : u = 0
  · rw [if_pos e, if_pos a1, a2, l15 ra R a4 a8, if_pos e]
  · rw [if_neg e, if_pos a1, a3, l15 ua U a5 a9, if_neg e]
theorem iv01 {c : Prop} {hd : Decidable c} : (if c then (1 : Int32) else 0) = 0 ∨ (if c then (1 : Int32) else 0) = 1 := by
  by_cases h : c
  · rw [if_pos h]
    exact Or.inr rfl
  · rw [if_neg h]
    exact Or.inl rfl
theorem n10 : ¬ (1 : Int32) = 0 := by decide
theorem FoG_iff {g g' : Pg} (h : GB g) (h' : GB g') : FoG g g' ↔ (pgn g = pgn g' ∧ ∀ i, i < pgn g → cdC (pgK g) (pgT g) (pgV g) (pgN g) i = cdC (pgK g') (pgT g') (pgV g') (pgN g') i) := by
  constructor
  · rintro ⟨h1, h2⟩
    exact ⟨h1, fun i hi => (cd_eq h.1 h'.1 hi (by omega)).mpr (h2 i hi)⟩
  · rintro ⟨h1, h2⟩
    exact ⟨h1, fun i hi => (cd_eq h.1 h'.1 hi (by omega)).mp (h2 i hi)⟩
theorem x_form {fu a a' : Nat} {ro : Nat → Nat} {g g' : Pg} {X : Mem} (hfu : 100 ≤ fu) (h : PrgX ro a g X) (h' : PrgX ro a' g' X) (hB : GB g) (hB' : GB g') : ∃ r, fX5_hasFormOf fu X a (some a') = some r ∧ TF r (FoG g g') := by
  obtain ⟨os, pa, wa, fo, dr, ra, ua, oa, h1, -⟩ := h
  obtain ⟨os', pa', wa', fo', dr', ra', ua', oa', i1, -⟩ := h'
  obtain ⟨r, z1, z2⟩ := d_hasForm (fu := fu) hfu hB.1.1 hB'.1.1 h1.1.1 h1.2.2.2.1 h1.2.2.2.2.1 i1.1.1 i1.2.2.2.1 i1.2.2.2.2.1 h1.2.2.2.2.2.2.2.2.2.2.2.2.2 i1.2.2.2.2.2.2.2.2.2.2.2.2.2
  exact ⟨r, z1, z2.cg (FoG_iff hB hB').symm⟩
theorem BaseX.fm2 {P : Nat → Prop} {A ro : Nat → Nat} {X X1 : Mem} (h : BaseX A ro X) (hf : FreshM X) (k : Fm P X X1) (r : ∀ q ∈ bR, mR X1 q.1 (A q.2.1) = mR X q.1 (A q.2.1)) (hP : DskX A ro X1) : BaseX A ro X1 := by
  refine ⟨fun q hq => ?_, fun q hq => ?_, hP⟩
  · obtain ⟨h1, h2⟩ := h.1 q hq
    exact ⟨k.k hf h1, h2⟩
  · rw [r q hq]
    exact h.2.1 q hq
theorem bR_4 : ∀ q ∈ bR, q.2.1 ≠ 4 ∧ ∃ p ∈ bK, p.1 = q.2.1 := by decide
section ASW
variable {fu : Nat} {A ro pa ea wa : Nat → Nat} {K T V N : Nat → Int32} {n np : Nat} {G : Nat → Pg} {ne : Nat} {ew : Nat → Nat} {eo es : Nat → Int32} {nw : Nat} {wp we : Nat → Nat} {wc : Nat → Int32} {wo : Nat → Option Nat} {W H : Nat} {X : Mem} {S : SM}
theorem lay_ok {W H : Nat} {wd hg : Nat → Nat} {ok : Nat → Prop} {n : Nat} (hW : W ≤ 40) (hwd : ∀ i, i < n → wd i < 18) : (∀ i k, (layB W H wd hg ok n).2 i = some k → i < n ∧ k % W + wd i ≤ W ∧ k / W + hg i ≤ H) ∧ ∀ i i' k k', i < i' → (layB W H wd hg ok n).2 i = some k → (layB W H wd hg ok n).2 i' = some k' → ∀ x y, InR W (wd i) (hg i) k x y → ¬ InR W (wd i') (hg i') k' x y := by
  have e : layB W H wd hg ok n = layB W H (fun i => if i < n then wd i else 1) hg ok n := layB_cg n (fun i hi => ⟨(if_pos hi).symm, rfl, Iff.rfl⟩)
  have hlt : ∀ i k, (layB W H wd hg ok n).2 i = some k → i < n := by
    intro i k h
    refine Classical.byContradiction fun z => ?_
    rw [layB_none n i (by omega)] at h
    exact nomatch h
  obtain ⟨-, d2, d3⟩ := lay_dis (H := H) (hg := hg) (ok := ok) (wd := fun i => if i < n then wd i else 1) hW (fun i => by
    show (if i < n then wd i else 1) < 18
    split
    · rename_i hi
      exact hwd i hi
    · omega) n
  rw [← e] at d2 d3
  refine ⟨fun i k h => ?_, fun i i' k k' hl h h' x y r r' => ?_⟩
  · have q := d2 i k h
    have hi := hlt i k h
    have ew : (if i < n then wd i else 1) = wd i := if_pos hi
    have q1 := q.1
    have q2 := q.2.1
    rw [ew] at q1
    exact ⟨hi, q1, q2⟩
  · have ew : (if i < n then wd i else 1) = wd i := if_pos (hlt i k h)
    have ew' : (if i' < n then wd i' else 1) = wd i' := if_pos (hlt i' k' h')
    refine d3 i i' k k' hl h h' x y ?_ ?_
    · show InR W (if i < n then wd i else 1) (hg i) k x y
      rw [ew]
      exact r
    · show InR W (if i' < n then wd i' else 1) (hg i') k' x y
      rw [ew']
      exact r'
noncomputable def cnB (P : Nat → Prop) : Nat → Nat
  | 0 => 0
  | n + 1 => cnB P n + @ite Nat (P n) (Classical.propDecidable _) 1 0
theorem cnB_y {P : Nat → Prop} {n : Nat} (h : P n) : cnB P (n + 1) = cnB P n + 1 := by
  show cnB P n + _ = _
  rw [if_pos h]
theorem cnB_n {P : Nat → Prop} {n : Nat} (h : ¬ P n) : cnB P (n + 1) = cnB P n := by
  show cnB P n + _ = _
  rw [if_neg h, Nat.add_zero]
theorem s_rng {cx a m : Nat} (h1 : cx < 1000) (h2 : a < 1000) (h3 : m < 1000) : ((0 : Int32) ≤ nI cx - nI a ∧ nI cx - nI a ≤ nI m) ↔ (a ≤ cx ∧ cx < a + (m + 1)) := by
  rw [Int32.le_iff_toInt_le, Int32.le_iff_toInt_le, pk_sub_toInt (by omega) (by omega), nI_toInt (by omega), show (0 : Int32).toInt = 0 from rfl]
  omega
theorem dm100 {a b : Nat} (h : b < 100) : (100 * a + b) / 100 = a ∧ (100 * a + b) % 100 = b := by omega
def CovP (W : Nat) (wd hg : Nat → Nat) (o : Nat → Option Nat) (cx cy w : Nat) : Prop := ∃ k, o w = some k ∧ InR W (wd w) (hg w) k cx cy
theorem lay_oG (pP : PrsP np G) (pW : WksP np ne nw G wp we wc wo) (pL : WalP W H) : (∀ i k, layG W H G ew eo es wp we wc wo nw i = some k → i < nw ∧ k % W + wdG G wp i ≤ W ∧ k / W + hgG G wp i ≤ H) ∧ ∀ i i' k k', i < i' → layG W H G ew eo es wp we wc wo nw i = some k → layG W H G ew eo es wp we wc wo nw i' = some k' → ∀ x y, InR W (wdG G wp i) (hgG G wp i) k x y → ¬ InR W (wdG G wp i') (hgG G wp i') k' x y := by
  refine lay_ok (ok := okG G ew eo es wp we wc wo) pL.2.1 (fun i hi => ?_)
  obtain ⟨l1, l2, l3, l4, l5, l6⟩ := (pP.2 _ (pW.2.1 i hi).1).lim
  unfold wdG
  omega
theorem x_covers {w cx cy : Nat} (P : PrsX A ro pa np G X) (Wk : WksX A ro pa ea wa nw wp we wc wo X) (Hg : HngX W wa nw (layG W H G ew eo es wp we wc wo nw) X) (pP : PrsP np G) (pW : WksP np ne nw G wp we wc wo) (pL : WalP W H) (hw : w < nw) (hx : cx < 40) (hy : cy < 40) : ∃ r, fX10_covers X (wa w) (nI cx) (nI cy) = some r ∧ TF r (CovP W (wdG G wp) (hgG G wp) (layG W H G ew eo es wp we wc wo nw) cx cy w) := by
  obtain ⟨w1, w2, w3, w4, w5, w6, w7⟩ := Wk.2.2 w hw
  obtain ⟨q1, -⟩ := pW.2.1 w hw
  have hB := pP.2 _ q1
  obtain ⟨l1, l2, l3, l4, l5, l6⟩ := hB.lim
  obtain ⟨os, pa9, wa9, fo, dr, ra, ua, oa, h1, h2, h3, h4, h5, -⟩ := (P.2 (wp w) q1).2
  obtain ⟨c1, c2⟩ := dr_cells h5 hB.2.2.2.1 ⟨l3, l4⟩ (fun z => (hB.2.2.2.2.1 z).2)
  have hg := Hg w hw
  unfold fX10_covers
  rw [if_pos w2]
  cases eo9 : layG W H G ew eo es wp we wc wo nw w with
  | none =>
    rw [eo9] at hg
    rw [if_pos (show mI X 1004 (wa w) = 0 from hg)]
    exact ⟨0, rfl, Or.inr ⟨rfl, fun ⟨k, z, _⟩ => by rw [eo9] at z; exact nomatch z⟩⟩
  | some k =>
    rw [eo9] at hg
    obtain ⟨g1, g2, g3⟩ := hg
    obtain ⟨o1, o2, o3⟩ := (lay_oG pP pW pL).1 w k eo9
    have hW := pL.2.1
    have hH := pL.2.2.2
    have cov : CovP W (wdG G wp) (hgG G wp) (layG W H G ew eo es wp we wc wo nw) cx cy w ↔ InR W (wdG G wp w) (hgG G wp w) k cx cy := ⟨fun ⟨k', z, q⟩ => by rw [eo9] at z; cases z; exact q, fun q => ⟨k, eo9, q⟩⟩
    have ew9 : pgc (G (wp w)) - pga (G (wp w)) + 1 = wdG G wp w := rfl
    have eh9 : pgd (G (wp w)) - pgb (G (wp w)) + 1 = hgG G wp w := rfl
    rw [ew9] at c1
    rw [eh9] at c2
    rw [if_neg (by rw [g1]; decide), g2, g3, w4]
    by_cases e1 : cx < k % W
    · rw [if_pos ((nI_ltI (by omega) (by omega)).mpr e1)]
      exact ⟨0, rfl, Or.inr ⟨rfl, fun z => by have := (cov.mp z).1; omega⟩⟩
    rw [if_neg (fun z => e1 ((nI_ltI (by omega) (by omega)).mp z)), bi_some, if_pos h1.1.1, h1.2.2.2.2.2.1, bi_some, if_pos h5.1, c1, bi_some, nI_add]
    by_cases e2 : k % W + wdG G wp w ≤ cx
    · rw [if_pos ((nI_leI (by omega) (by omega)).mpr e2)]
      exact ⟨0, rfl, Or.inr ⟨rfl, fun z => by have := (cov.mp z).2.1; omega⟩⟩
    rw [if_neg (fun z => e2 ((nI_leI (by omega) (by omega)).mp z))]
    by_cases e3 : cy < k / W
    · rw [if_pos ((nI_ltI (by omega) (by omega)).mpr e3)]
      exact ⟨0, rfl, Or.inr ⟨rfl, fun z => by have := (cov.mp z).2.2.1; omega⟩⟩
    rw [if_neg (fun z => e3 ((nI_ltI (by omega) (by omega)).mp z)), bi_some, if_pos h1.1.1, h1.2.2.2.2.2.1, bi_some, if_pos h5.1, c2, bi_some, nI_add]
    by_cases e4 : k / W + hgG G wp w ≤ cy
    · rw [if_pos ((nI_leI (by omega) (by omega)).mpr e4)]
      exact ⟨0, rfl, Or.inr ⟨rfl, fun z => by have := (cov.mp z).2.2.2; omega⟩⟩
    rw [if_neg (fun z => e4 ((nI_leI (by omega) (by omega)).mp z))]
    exact ⟨1, rfl, Or.inl ⟨rfl, cov.mpr ⟨by omega, by omega, by omega, by omega⟩⟩⟩
theorem x_wall24 {cx cy : Nat} (B : BaseX A ro X) (P : PrsX A ro pa np G X) (Wk : WksX A ro pa ea wa nw wp we wc wo X) (Hg : HngX W wa nw (layG W H G ew eo es wp we wc wo nw) X) (pP : PrsP np G) (pW : WksP np ne nw G wp we wc wo) (pL : WalP W H) (hx : cx < 40) (hy : cy < 40) : ∀ (t i m : Nat), i + t = nw → (∀ v, v < i → ¬ CovP W (wdG G wp) (hgG G wp) (layG W H G ew eo es wp we wc wo nw) cx cy v) → ∃ o, fX11_onWall_L24 fu X (m + t + 1) (A 0) (nI cx) (nI cy) (nI i) = some (.inr (oW o)) ∧ OrgP (CovP W (wdG G wp) (hgG G wp) (layG W H G ew eo es wp we wc wo nw) cx cy) 0 nw o := by
  have hnw := pW.1
  have h0 := B.k 0 11 0 (by decide)
  intro t
  induction t with
  | zero =>
    intro i m hi hn
    have hi : i = nw := hi
    subst hi
    refine ⟨none, ?_, fun v _ hv => hn v hv⟩
    show fX11_onWall_L24b fu X (fX11_onWall_L24 fu X m) (A 0) (nI cx) (nI cy) (nI i) = _
    unfold fX11_onWall_L24b
    rw [if_pos h0, Wk.1, if_pos (Int32.le_refl _)]
    rfl
  | succ t ih =>
    intro i m hi hn
    obtain ⟨w1, w2, -⟩ := Wk.2.2 i (by omega)
    obtain ⟨r, c1, c2⟩ := x_covers P Wk Hg pP pW pL (by omega : i < nw) hx hy
    show ∃ o, fX11_onWall_L24b fu X (fX11_onWall_L24 fu X (m + t + 1)) (A 0) (nI cx) (nI cy) (nI i) = some (.inr (oW o)) ∧ _
    unfold fX11_onWall_L24b fX11_onWall_L66
    rw [if_pos h0, Wk.1, if_neg (fun q => by have := (nI_leI (by omega) (by omega)).mp q; omega), B.r 1107 0 8 (by decide), bi_some, alen_of (B.k 8 26 24 (by decide)) (by decide), bi_some, if_neg (fun q => by have := (nI_leI (by omega) (by omega)).mp q; omega), bi_some, if_pos (inb_of (t := 6) (B.k 8 26 24 (by decide)) (by omega : i < 24) (by omega)), nI_clamp (by omega), w1, if_neg (by exact fun q => nomatch q), bi_some, if_pos w2, c1, bi_some, nI_1]
    rcases c2 with ⟨rfl, c2⟩ | ⟨rfl, c2⟩
    · rw [if_neg n10]
      exact ⟨some i, rfl, Nat.zero_le i, by omega, c2, fun u _ hu => hn u hu⟩
    · rw [if_pos rfl]
      refine ih (i + 1) m (by omega) (fun v hv => ?_)
      by_cases e : v = i
      · rw [e]; exact c2
      · exact hn v (by omega)
theorem x_cell (B : BaseX A ro X) (Wl : WalX A W H X) (pL : WalP W H) (u v : Int32) : (∃ cx cy, cx < W ∧ u = nI cx ∧ cy < H ∧ v = nI cy ∧ fX9_hasCell X (A 5) u v = some 1) ∨ (¬ ((∃ j, j < W ∧ u = nI j) ∧ ∃ j, j < H ∧ v = nI j) ∧ fX9_hasCell X (A 5) u v = some 0) := by
  obtain ⟨p1, p2, p3, p4⟩ := pL
  have h5 := B.k 5 9 0 (by decide)
  unfold fX9_hasCell
  rw [if_pos h5, Wl.1, Wl.2]
  rcases pk_ix u (show W < 2 ^ 31 by omega) with h | h | ⟨j, hj, rfl⟩
  · rw [if_pos h]
    exact Or.inr ⟨fun ⟨⟨j, hj, e⟩, _⟩ => nI_pos (n := j) (by omega) (by rw [e] at h; exact h), rfl⟩
  · refine Or.inr ⟨fun ⟨⟨j, hj, e⟩, _⟩ => by rw [e] at h; have := (nI_leI (by omega) (by omega)).mp h; omega, ?_⟩
    by_cases h0 : u < 0
    · rw [if_pos h0]
    · rw [if_neg h0, if_pos h]
  · rw [if_neg (nI_pos (by omega)), if_neg (fun q => by have := (nI_leI (by omega) (by omega)).mp q; omega)]
    rcases pk_ix v (show H < 2 ^ 31 by omega) with h | h | ⟨i, hi, rfl⟩
    · rw [if_pos h]
      exact Or.inr ⟨fun ⟨_, ⟨j, hj, e⟩⟩ => nI_pos (n := j) (by omega) (by rw [e] at h; exact h), rfl⟩
    · refine Or.inr ⟨fun ⟨_, ⟨j, hj, e⟩⟩ => by rw [e] at h; have := (nI_leI (by omega) (by omega)).mp h; omega, ?_⟩
      by_cases h0 : v < 0
      · rw [if_pos h0]
      · rw [if_neg h0, if_pos h]
    · rw [if_neg (nI_pos (by omega)), if_neg (fun q => by have := (nI_leI (by omega) (by omega)).mp q; omega)]
      exact Or.inl ⟨j, i, hj, rfl, hi, rfl, rfl⟩
variable {o : Nat → Option Nat}
theorem x_hung8 {q : Int32} (B : BaseX A ro X) (P : PrsX A ro pa np G X) (Wk : WksX A ro pa ea wa nw wp we wc wo X) (Hg : HngX W wa nw o X) (pW : WksP np ne nw G wp we wc wo) : ∀ (t i m : Nat), i + t = nw → fX11_hung_L8 fu X (m + t + 1) (A 0) q (nI (cnB (fun w => o w ≠ none ∧ pgu (G (wp w)) = q) i)) (nI i) = some (.inr (nI (cnB (fun w => o w ≠ none ∧ pgu (G (wp w)) = q) nw))) := by
  have hnw := pW.1
  have h0 := B.k 0 11 0 (by decide)
  intro t
  induction t with
  | zero =>
    intro i m hi
    have hi : i = nw := hi
    subst hi
    show fX11_hung_L8b fu X (fX11_hung_L8 fu X m) (A 0) q _ (nI i) = _
    unfold fX11_hung_L8b
    rw [if_pos h0, Wk.1, if_pos (Int32.le_refl _)]
  | succ t ih =>
    intro i m hi
    obtain ⟨w1, w2, w3, w4, -⟩ := Wk.2.2 i (by omega)
    obtain ⟨q1, -⟩ := pW.2.1 i (by omega)
    obtain ⟨os, pa9, wa9, fo, dr, ra, ua, oa, h1, h2, -⟩ := (P.2 (wp i) q1).2
    have hg := Hg i (by omega)
    have nx := ih (i + 1) m (by omega)
    show fX11_hung_L8b fu X (fX11_hung_L8 fu X (m + t + 1)) (A 0) q _ (nI i) = _
    unfold fX11_hung_L8b fX11_hung_L61
    rw [if_pos h0, Wk.1, if_neg (fun q => by have := (nI_leI (by omega) (by omega)).mp q; omega), B.r 1107 0 8 (by decide), bi_some, alen_of (B.k 8 26 24 (by decide)) (by decide), bi_some, if_neg (fun q => by have := (nI_leI (by omega) (by omega)).mp q; omega), bi_some, if_pos (inb_of (t := 6) (B.k 8 26 24 (by decide)) (by omega : i < 24) (by omega)), nI_clamp (by omega), w1, if_neg (by exact fun q => nomatch q), bi_some, if_pos w2, w4, bi_some, if_pos h1.1.1, h2, nI_1, nI_1]
    cases eo9 : o i with
    | none =>
      rw [eo9] at hg
      rw [if_pos (show mI X 1004 (wa i) = 0 from hg)]
      rw [cnB_n (fun z => z.1 eo9)] at nx
      exact nx
    | some k =>
      rw [eo9] at hg
      rw [if_neg (by rw [hg.1]; decide)]
      by_cases e : pgu (G (wp i)) = q
      · rw [if_pos e]
        rw [cnB_y (P := fun w => o w ≠ none ∧ pgu (G (wp w)) = q) ⟨fun z => (by rw [eo9] at z; cases z), e⟩] at nx
        exact nx
      · rw [if_neg e]
        rw [cnB_n (fun z => e z.2)] at nx
        exact nx
theorem x_count4 (B : BaseX A ro X) (Wk : WksX A ro pa ea wa nw wp we wc wo X) (Hg : HngX W wa nw o X) (pW : WksP np ne nw G wp we wc wo) : ∀ (t i m : Nat), i + t = nw → fX11_countHanging_L4 fu X (m + t + 1) (A 0) (nI (cnB (fun w => o w ≠ none) i)) (nI i) = some (nI (cnB (fun w => o w ≠ none) nw)) := by
  have hnw := pW.1
  have h0 := B.k 0 11 0 (by decide)
  intro t
  induction t with
  | zero =>
    intro i m hi
    have hi : i = nw := hi
    subst hi
    show fX11_countHanging_L4b fu X (fX11_countHanging_L4 fu X m) (A 0) _ (nI i) = _
    unfold fX11_countHanging_L4b
    rw [if_pos h0, Wk.1, if_pos (Int32.le_refl _)]
  | succ t ih =>
    intro i m hi
    obtain ⟨w1, w2, -⟩ := Wk.2.2 i (by omega)
    have hg := Hg i (by omega)
    have nx := ih (i + 1) m (by omega)
    show fX11_countHanging_L4b fu X (fX11_countHanging_L4 fu X (m + t + 1)) (A 0) _ (nI i) = _
    unfold fX11_countHanging_L4b fX11_countHanging_L42
    rw [if_pos h0, Wk.1, if_neg (fun q => by have := (nI_leI (by omega) (by omega)).mp q; omega), B.r 1107 0 8 (by decide), bi_some, alen_of (B.k 8 26 24 (by decide)) (by decide), bi_some, if_neg (fun q => by have := (nI_leI (by omega) (by omega)).mp q; omega), bi_some, if_pos (inb_of (t := 6) (B.k 8 26 24 (by decide)) (by omega : i < 24) (by omega)), nI_clamp (by omega), w1, if_neg (by exact fun q => nomatch q), bi_some, if_pos w2, nI_1, nI_1]
    cases eo9 : o i with
    | none =>
      rw [eo9] at hg
      rw [if_pos (show mI X 1004 (wa i) = 0 from hg)]
      rw [cnB_n (fun z => z eo9)] at nx
      exact nx
    | some k =>
      rw [eo9] at hg
      rw [if_neg (by rw [hg.1]; decide)]
      rw [cnB_y (P := fun w => o w ≠ none) (fun z => by rw [eo9] at z; exact nomatch z)] at nx
      exact nx
theorem x_meet4 {e : Nat} (hfu : 100 ≤ fu) (he : e < ne) (B : BaseX A ro X) (P : PrsX A ro pa np G X) (E : ExsX A ro pa ea ne ew eo es X) (Wk : WksX A ro pa ea wa nw wp we wc wo X) (pP : PrsP np G) (pE : ExsP np ne ew) (pW : WksP np ne nw G wp we wc wo) : ∀ (t i m : Nat), i + t = nw → fX11_countMeeting_L4 fu X (m + t + 1) (A 0) (some (ea e)) (nI (cnB (fun w => we w = e ∧ MtG G ew eo es wp we w) i)) (nI i) = some (nI (cnB (fun w => we w = e ∧ MtG G ew eo es wp we w) nw)) := by
  have hnw := pW.1
  have h0 := B.k 0 11 0 (by decide)
  intro t
  induction t with
  | zero =>
    intro i m hi
    have hi : i = nw := hi
    subst hi
    show fX11_countMeeting_L4b fu X (fX11_countMeeting_L4 fu X m) (A 0) _ _ (nI i) = _
    unfold fX11_countMeeting_L4b
    rw [if_pos h0, Wk.1, if_pos (Int32.le_refl _)]
  | succ t ih =>
    intro i m hi
    obtain ⟨w1, w2, w3, w4, w5, -⟩ := Wk.2.2 i (by omega)
    obtain ⟨r, c1, c2⟩ := x_meets (fu := fu) hfu P E Wk pP pE pW (by omega : i < nw)
    obtain ⟨-, q2, -⟩ := pW.2.1 i (by omega)
    have nx := ih (i + 1) m (by omega)
    show fX11_countMeeting_L4b fu X (fX11_countMeeting_L4 fu X (m + t + 1)) (A 0) _ _ (nI i) = _
    unfold fX11_countMeeting_L4b fX11_countMeeting_L54
    rw [if_pos h0, Wk.1, if_neg (fun q => by have := (nI_leI (by omega) (by omega)).mp q; omega), B.r 1107 0 8 (by decide), bi_some, alen_of (B.k 8 26 24 (by decide)) (by decide), bi_some, if_neg (fun q => by have := (nI_leI (by omega) (by omega)).mp q; omega), bi_some, if_pos (inb_of (t := 6) (B.k 8 26 24 (by decide)) (by omega : i < 24) (by omega)), nI_clamp (by omega), w1, if_neg (by exact fun q => nomatch q), bi_some, if_pos w2, w5, c1, bi_some, nI_1, nI_1]
    by_cases e9 : we i = e
    · rw [if_pos (by rw [e9])]
      rcases c2 with ⟨rfl, c2⟩ | ⟨rfl, c2⟩
      · rw [if_neg n10]
        rw [cnB_y (P := fun w => we w = e ∧ MtG G ew eo es wp we w) ⟨e9, c2⟩] at nx
        exact nx
      · rw [if_pos rfl]
        rw [cnB_n (fun z => c2 z.2)] at nx
        exact nx
    · rw [if_neg (fun z => e9 (E.2.1 _ _ q2 he (Option.some.inj z)))]
      rw [cnB_n (fun z => e9 z.1)] at nx
      exact nx
theorem x_pupil {X : Mem} (v : Int32) : ((∃ j, j < 6 ∧ v = nI j) ∧ fX11_checkPupil X v = some (.inr ())) ∨ ((¬ ∃ j, j < 6 ∧ v = nI j) ∧ fX11_checkPupil X v = some (.inl "java/lang/IndexOutOfBoundsException")) := by
  unfold fX11_checkPupil
  rcases pk_ix v (show 6 < 2 ^ 31 by omega) with h | h | ⟨j, hj, rfl⟩
  · rw [if_pos h]
    exact Or.inr ⟨fun ⟨j, hj, e⟩ => nI_pos (n := j) (by omega) (by rw [e] at h; exact h), rfl⟩
  · refine Or.inr ⟨fun ⟨j, hj, e⟩ => by rw [e] at h; have := (nI_leI (by omega) (by omega)).mp h; omega, ?_⟩
    by_cases h0 : v < 0
    · rw [if_pos h0]
    · rw [if_neg h0, if_neg (show ¬ v < (6 : Int32) from fun z => Int32.lt_irrefl (Int32.lt_of_lt_of_le z h))]
  · rw [if_neg (nI_pos (by omega)), if_pos (show nI j < (6 : Int32) from (nI_ltI (by omega) (by omega : 6 < 2 ^ 31)).mpr hj)]
    exact Or.inl ⟨⟨j, hj, rfl⟩, rfl⟩
end ASW
/-- the class's memory, with what it holds -/
def StX (x : Nat) (K T V N : Nat → Int32) (n np : Nat) (G : Nat → Pg) (ne : Nat) (ew : Nat → Nat) (eo es : Nat → Int32) (nw : Nat) (wp we : Nat → Nat) (wc : Nat → Int32) (wo : Nat → Option Nat) (W H : Nat) (X : Mem) : Prop := FreshM X ∧ ∃ A ro pa ea wa, A 0 = x ∧ RelX A ro pa ea wa K T V N n np G ne ew eo es nw wp we wc wo W H X
section MM
variable {fu x : Nat} {K T V N : Nat → Int32} {n np : Nat} {G : Nat → Pg} {ne : Nat} {ew : Nat → Nat} {eo es : Nat → Int32} {nw : Nat} {wp we : Nat → Nat} {wc : Nat → Int32} {wo : Nat → Option Nat} {W H : Nat} {X : Mem}
theorem m_k (h : StX x K T V N n np G ne ew eo es nw wp we wc wo W H X) : mK X x = some (11, 0) := by
  obtain ⟨hF, A, ro, pa, ea, wa, rfl, B, -⟩ := h
  exact B.k 0 11 0 (by decide)
theorem StX.z {z : Nat} (h : StX x K T V N n np G ne ew eo es nw wp we wc wo W H X) (hz : mZ X ≤ z) : StX x K T V N n np G ne ew eo es nw wp we wc wo W H (zM X z) := ⟨fun a ha => Nat.lt_of_lt_of_le (h.1 a ha) hz, h.2⟩
theorem x_progI {A ro pa : Nat → Nat} (B : BaseX A ro X) (P : PrsX A ro pa np G X) (hn : np ≤ 30) {p : Nat} (hp : p < np) : fX11_programAt X (A 0) (nI p) = some (.inr (some (pa p))) := by
  rcases x_prog B P hn (nI p) with ⟨q, hq, e1, e2⟩ | ⟨h, -⟩
  · have e : p = q := (nI_eq (by omega) (by omega)).mp e1
    rw [e2, e]
  · exact absurd ⟨p, hp, rfl⟩ h
theorem x_exerI {A ro pa ea : Nat → Nat} (B : BaseX A ro X) (P : ExsX A ro pa ea ne ew eo es X) (hn : ne ≤ 6) {p : Nat} (hp : p < ne) : fX11_exerciseAt X (A 0) (nI p) = some (.inr (some (ea p))) := by
  rcases x_exer B P hn (nI p) with ⟨q, hq, e1, e2⟩ | ⟨h, -⟩
  · have e : p = q := (nI_eq (by omega) (by omega)).mp e1
    rw [e2, e]
  · exact absurd ⟨p, hp, rfl⟩ h
theorem x_workI {A ro pa ea wa : Nat → Nat} (B : BaseX A ro X) (P : WksX A ro pa ea wa nw wp we wc wo X) (hn : nw ≤ 24) {p : Nat} (hp : p < nw) : fX11_workAt X (A 0) (nI p) = some (.inr (some (wa p))) := by
  rcases x_work B P hn (nI p) with ⟨q, hq, e1, e2⟩ | ⟨h, -⟩
  · have e : p = q := (nI_eq (by omega) (by omega)).mp e1
    rw [e2, e]
  · exact absurd ⟨p, hp, rfl⟩ h
theorem m_drafted (h : StX x K T V N n np G ne ew eo es nw wp we wc wo W H X) : fX11_drafted X x = some (nI n) := by
  obtain ⟨hF, A, ro, pa, ea, wa, rfl, B, ⟨oa, d1, d2⟩, -⟩ := h
  unfold fX11_drafted fX1_length
  rw [if_pos (B.k 0 11 0 (by decide)), B.r 1100 0 1 (by decide), bi_some, if_pos d1.1, if_pos d1.1, bi_some, d1.2.2.2.1]
theorem m_programs (h : StX x K T V N n np G ne ew eo es nw wp we wc wo W H X) : fX11_programs X x = some (nI np) := by
  obtain ⟨hF, A, ro, pa, ea, wa, rfl, B, D, P, -⟩ := h
  unfold fX11_programs
  rw [if_pos (B.k 0 11 0 (by decide)), P.1]
theorem m_works (h : StX x K T V N n np G ne ew eo es nw wp we wc wo W H X) : fX11_works X x = some (nI nw) := by
  obtain ⟨hF, A, ro, pa, ea, wa, rfl, B, D, P, E, Wk, -⟩ := h
  unfold fX11_works
  rw [if_pos (B.k 0 11 0 (by decide)), Wk.1]
theorem m_fault {p : Nat} (h : StX x K T V N n np G ne ew eo es nw wp we wc wo W H X) (hP : RelP K T V N n np G ne ew nw wp we wc wo W H) (hp : p < np) : fX11_fault X x (nI p) = some (.inr (cF (pgF (G p)))) := by
  obtain ⟨hF, A, ro, pa, ea, wa, rfl, B, D, P, E, Wk, Wl, Hg⟩ := h
  obtain ⟨pD, pP, pE, pW, pL⟩ := hP
  have b1 := pP.1
  have hne := pE.1
  have hnw := pW.1
  have hx := B.k 0 11 0 (by decide)
  obtain ⟨os, pa9, wa9, fo, dr, ra, ua, oa, h1, h2, h3, h4, h5, -⟩ := (P.2 p hp).2
  unfold fX11_fault
  rw [if_pos hx, x_progI B P b1 hp, bE_r, bi_some, if_pos h1.1.1, h3]
theorem m_steps {p : Nat} (h : StX x K T V N n np G ne ew eo es nw wp we wc wo W H X) (hP : RelP K T V N n np G ne ew nw wp we wc wo W H) (hp : p < np) : fX11_steps X x (nI p) = some (.inr (nI (cC (pgF (G p))))) := by
  obtain ⟨hF, A, ro, pa, ea, wa, rfl, B, D, P, E, Wk, Wl, Hg⟩ := h
  obtain ⟨pD, pP, pE, pW, pL⟩ := hP
  have b1 := pP.1
  have hne := pE.1
  have hnw := pW.1
  have hx := B.k 0 11 0 (by decide)
  obtain ⟨os, pa9, wa9, fo, dr, ra, ua, oa, h1, h2, h3, h4, h5, -⟩ := (P.2 p hp).2
  unfold fX11_steps
  rw [if_pos hx, x_progI B P b1 hp, bE_r, bi_some, if_pos h1.1.1, h4]
theorem m_strokes {p : Nat} (h : StX x K T V N n np G ne ew eo es nw wp we wc wo W H X) (hP : RelP K T V N n np G ne ew nw wp we wc wo W H) (hp : p < np) : fX11_strokes X x (nI p) = some (.inr (nI (pgk (G p)))) := by
  obtain ⟨hF, A, ro, pa, ea, wa, rfl, B, D, P, E, Wk, Wl, Hg⟩ := h
  obtain ⟨pD, pP, pE, pW, pL⟩ := hP
  have b1 := pP.1
  have hne := pE.1
  have hnw := pW.1
  have hx := B.k 0 11 0 (by decide)
  obtain ⟨os, pa9, wa9, fo, dr, ra, ua, oa, h1, h2, h3, h4, h5, -⟩ := (P.2 p hp).2
  unfold fX11_strokes
  rw [if_pos hx, x_progI B P b1 hp, bE_r, bi_some, if_pos h1.1.1, h1.2.2.2.2.2.1, bi_some, if_pos h5.1, h5.2.2.2.2.2.1]
theorem m_isDrawn {p cx cy : Nat} {u : Int32} (h : StX x K T V N n np G ne ew eo es nw wp we wc wo W H X) (hP : RelP K T V N n np G ne ew nw wp we wc wo W H) (hp : p < np) (hcx : cx < 16) (hcy : cy < 16) : fX11_isDrawn X x (nI p) (nI cx) (nI cy) u = some (.inr (if bit1 (if u = 0 then cR (pgF (G p)) cy else cU (pgF (G p)) cy) (nI cx) = 1 then 1 else 0)) := by
  obtain ⟨hF, A, ro, pa, ea, wa, rfl, B, D, P, E, Wk, Wl, Hg⟩ := h
  obtain ⟨pD, pP, pE, pW, pL⟩ := hP
  have b1 := pP.1
  have hne := pE.1
  have hnw := pW.1
  have hx := B.k 0 11 0 (by decide)
  obtain ⟨os, pa9, wa9, fo, dr, ra, ua, oa, i1, i2, i3, i4, i5, -⟩ := (P.2 p hp).2
  have g1 : onG (nI cx) := onG_nI hcx
  have g2 : onG (nI cy) := onG_nI hcy
  unfold fX11_isDrawn
  rw [if_pos hx, x_progI B P b1 hp, bE_r, c_onG, c_onG, bi_some, if_pos g1, if_neg n10, bi_some, if_pos g2, if_neg n10, bi_some, if_pos i1.1.1, i1.2.2.2.2.2.1, bi_some, if_pos i5.1, i5.stroke g1 hcy, bi_some, if_pos iv01]
theorem m_areAlike {p q : Nat} (hfu : 5000 ≤ fu) (h : StX x K T V N n np G ne ew eo es nw wp we wc wo W H X) (hP : RelP K T V N n np G ne ew nw wp we wc wo W H) (hp : p < np) (hq : q < np) : ∃ r, fX11_areAlike fu X x (nI p) (nI q) = some (.inr r) ∧ TF r (AlG (G p) (G q)) := by
  obtain ⟨hF, A, ro, pa, ea, wa, rfl, B, D, P, E, Wk, Wl, Hg⟩ := h
  obtain ⟨pD, pP, pE, pW, pL⟩ := hP
  have b1 := pP.1
  have hne := pE.1
  have hnw := pW.1
  have hx := B.k 0 11 0 (by decide)
  obtain ⟨dr, dr', s1, s2, s3, r, s4, s5⟩ := x_shift (fu := fu) (by omega) (P.2 p hp).2 (P.2 q hq).2 (pP.2 p hp) (pP.2 q hq)
  obtain ⟨os, pa9, wa9, fo, dr9, ra, ua, oa, h1, -⟩ := (P.2 p hp).2
  obtain ⟨os', pa9', wa9', fo', dr9', ra', ua', oa', h1', -⟩ := (P.2 q hq).2
  unfold fX11_areAlike
  rw [if_pos hx, x_progI B P b1 hp, bE_r, x_progI B P b1 hq, bE_r, bi_some, if_pos h1.1.1, bi_some, if_pos h1'.1.1, s1, bi_some, if_pos s2, s3, s4, bi_some, if_pos s5.b]
  exact ⟨r, rfl, s5⟩
theorem m_haveOneForm {p q : Nat} (hfu : 5000 ≤ fu) (h : StX x K T V N n np G ne ew eo es nw wp we wc wo W H X) (hP : RelP K T V N n np G ne ew nw wp we wc wo W H) (hp : p < np) (hq : q < np) : ∃ r, fX11_haveOneForm fu X x (nI p) (nI q) = some (.inr r) ∧ TF r (FoG (G p) (G q)) := by
  obtain ⟨hF, A, ro, pa, ea, wa, rfl, B, D, P, E, Wk, Wl, Hg⟩ := h
  obtain ⟨pD, pP, pE, pW, pL⟩ := hP
  have b1 := pP.1
  have hne := pE.1
  have hnw := pW.1
  have hx := B.k 0 11 0 (by decide)
  obtain ⟨r, s4, s5⟩ := x_form (fu := fu) (by omega) (P.2 p hp).2 (P.2 q hq).2 (pP.2 p hp) (pP.2 q hq)
  obtain ⟨os, pa9, wa9, fo, dr9, ra, ua, oa, h1, -⟩ := (P.2 p hp).2
  unfold fX11_haveOneForm
  rw [if_pos hx, x_progI B P b1 hp, bE_r, x_progI B P b1 hq, bE_r, bi_some, if_pos h1.1.1, s4, bi_some, if_pos s5.b]
  exact ⟨r, rfl, s5⟩
theorem m_meets {w : Nat} (hfu : 5000 ≤ fu) (h : StX x K T V N n np G ne ew eo es nw wp we wc wo W H X) (hP : RelP K T V N n np G ne ew nw wp we wc wo W H) (hw : w < nw) : ∃ r, fX11_meets fu X x (nI w) = some (.inr r) ∧ TF r (MtG G ew eo es wp we w) := by
  obtain ⟨hF, A, ro, pa, ea, wa, rfl, B, D, P, E, Wk, Wl, Hg⟩ := h
  obtain ⟨pD, pP, pE, pW, pL⟩ := hP
  have b1 := pP.1
  have hne := pE.1
  have hnw := pW.1
  have hx := B.k 0 11 0 (by decide)
  obtain ⟨w1, w2, -⟩ := Wk.2.2 w hw
  obtain ⟨r1, m1, m2⟩ := x_meets (fu := fu) (by omega) P E Wk pP pE pW hw
  unfold fX11_meets
  rw [if_pos hx, x_workI B Wk hnw hw, bE_r, bi_some, if_pos w2, m1, bi_some, if_pos m2.b]
  exact ⟨r1, rfl, m2⟩
theorem m_copyOf {w : Nat} (h : StX x K T V N n np G ne ew eo es nw wp we wc wo W H X) (hP : RelP K T V N n np G ne ew nw wp we wc wo W H) (hw : w < nw) : fX11_copyOf X x (nI w) = some (.inr (oW (wo w))) := by
  obtain ⟨hF, A, ro, pa, ea, wa, rfl, B, D, P, E, Wk, Wl, Hg⟩ := h
  obtain ⟨pD, pP, pE, pW, pL⟩ := hP
  have b1 := pP.1
  have hne := pE.1
  have hnw := pW.1
  have hx := B.k 0 11 0 (by decide)
  obtain ⟨w1, w2, w3, w4, w5, w6, w7⟩ := Wk.2.2 w hw
  unfold fX11_copyOf
  rw [if_pos hx, x_workI B Wk hnw hw, bE_r, bi_some, if_pos w2, w6]
theorem m_hangs {w : Nat} (h : StX x K T V N n np G ne ew eo es nw wp we wc wo W H X) (hP : RelP K T V N n np G ne ew nw wp we wc wo W H) (hw : w < nw) : fX11_hangs X x (nI w) = some (.inr (plc W (layG W H G ew eo es wp we wc wo nw w))) := by
  obtain ⟨hF, A, ro, pa, ea, wa, rfl, B, D, P, E, Wk, Wl, Hg⟩ := h
  obtain ⟨pD, pP, pE, pW, pL⟩ := hP
  have b1 := pP.1
  have hne := pE.1
  have hnw := pW.1
  have hx := B.k 0 11 0 (by decide)
  obtain ⟨w1, w2, w3, w4, w5, w6, w7⟩ := Wk.2.2 w hw
  unfold fX11_hangs
  rw [if_pos hx, x_workI B Wk hnw hw, bE_r, bi_some, if_pos w2]
  have hg := Hg w hw
  cases eo9 : layG W H G ew eo es wp we wc wo nw w with
  | none =>
    rw [eo9] at hg
    rw [if_pos (show mI X 1004 (wa w) = 0 from hg)]
    rfl
  | some k =>
    rw [eo9] at hg
    obtain ⟨g1, g2, g3⟩ := hg
    rw [if_neg (by rw [g1]; decide), g2, g3, show (100 : Int32) = nI 100 from rfl, pk_mul, nI_add]
    rfl
theorem m_onWall {cx cy : Nat} (hfu : 5000 ≤ fu) (h : StX x K T V N n np G ne ew eo es nw wp we wc wo W H X) (hP : RelP K T V N n np G ne ew nw wp we wc wo W H) (hcx : cx < W) (hcy : cy < H) : ∃ o, fX11_onWall fu X x (nI cx) (nI cy) = some (.inr (oW o)) ∧ OrgP (CovP W (wdG G wp) (hgG G wp) (layG W H G ew eo es wp we wc wo nw) cx cy) 0 nw o := by
  obtain ⟨hF, A, ro, pa, ea, wa, rfl, B, D, P, E, Wk, Wl, Hg⟩ := h
  obtain ⟨pD, pP, pE, pW, pL⟩ := hP
  have b1 := pP.1
  have hne := pE.1
  have hnw := pW.1
  have hx := B.k 0 11 0 (by decide)
  have hW := pL.2.1
  have hH := pL.2.2.2
  obtain ⟨o, z1, z2⟩ := x_wall24 (fu := fu) B P Wk Hg pP pW pL (by omega : cx < 40) (by omega : cy < 40) nw 0 (fu - nw - 1) (by omega) (fun v hv => absurd hv (Nat.not_lt_zero v))
  rw [show fu - nw - 1 + nw + 1 = fu by omega] at z1
  have z1 : fX11_onWall_L24 fu X fu (A 0) (nI cx) (nI cy) 0 = _ := z1
  unfold fX11_onWall
  rw [if_pos hx, B.r 1104 0 5 (by decide), bi_some, if_pos (B.k 5 9 0 (by decide))]
  rcases x_cell B Wl pL (nI cx) (nI cy) with ⟨cx', cy', -, -, -, -, hc⟩ | ⟨hn, hc⟩
  · rw [hc, bi_some, if_neg n10, z1]
    exact ⟨o, rfl, z2⟩
  · exact absurd ⟨⟨cx, hcx, rfl⟩, cy, hcy, rfl⟩ hn
theorem m_hung {q : Nat} (hfu : 5000 ≤ fu) (h : StX x K T V N n np G ne ew eo es nw wp we wc wo W H X) (hP : RelP K T V N n np G ne ew nw wp we wc wo W H) (hq : q < 6) : fX11_hung fu X x (nI q) = some (.inr (nI (cnB (fun w => layG W H G ew eo es wp we wc wo nw w ≠ none ∧ pgu (G (wp w)) = nI q) nw))) := by
  obtain ⟨hF, A, ro, pa, ea, wa, rfl, B, D, P, E, Wk, Wl, Hg⟩ := h
  obtain ⟨pD, pP, pE, pW, pL⟩ := hP
  have b1 := pP.1
  have hne := pE.1
  have hnw := pW.1
  have hx := B.k 0 11 0 (by decide)
  unfold fX11_hung
  rcases x_pupil (X := X) (nI q) with ⟨hj, hc⟩ | ⟨hn, hc⟩
  · have z1 := x_hung8 (fu := fu) (q := nI q) B P Wk Hg pW nw 0 (fu - nw - 1) (by omega)
    rw [show fu - nw - 1 + nw + 1 = fu by omega] at z1
    have z1 : fX11_hung_L8 fu X fu (A 0) (nI q) 0 0 = _ := z1
    rw [hc, bE_r, z1]
  · exact absurd ⟨q, hq, rfl⟩ hn
end MM
