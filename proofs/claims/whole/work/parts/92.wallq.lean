/-! WHAT IS ASKED of the wall -/
theorem lay_ok {W H : Nat} {wd hg : Nat → Nat} {ok : Nat → Prop} {n : Nat} (hW : W ≤ 40) (hwd : ∀ i, i < n → wd i < 18) : (∀ i k, (layB W H wd hg ok n).2 i = some k → i < n ∧ k % W + wd i ≤ W ∧ k / W + hg i ≤ H) ∧ ∀ i i' k k', i < i' → (layB W H wd hg ok n).2 i = some k → (layB W H wd hg ok n).2 i' = some k' → ∀ x y, InR W (wd i) (hg i) k x y → ¬ InR W (wd i') (hg i') k' x y := by
  have e : layB W H wd hg ok n = layB W H (fun i => if i < n then wd i else 1) hg ok n := layB_cg n (fun i hi => ⟨(if_pos hi).symm, rfl, Iff.rfl⟩)
  have hlt : ∀ i k, (layB W H wd hg ok n).2 i = some k → i < n := by
    intro i k h
    refine Classical.byContradiction fun z => ?_
    rw [layB_none n i (by omega)] at h
    exact nomatch h
  obtain ⟨-, d2, d3⟩ := lay_dis (H := H) (hg := hg) (ok := ok) (wd := fun i => if i < n then wd i else 1) hW (fun i => by
    show (if i < n then wd i else 1) < 18
    split
    · rename_i hi
      exact hwd i hi
    · omega) n
  rw [← e] at d2 d3
  refine ⟨fun i k h => ?_, fun i i' k k' hl h h' x y r r' => ?_⟩
  · have q := d2 i k h
    have hi := hlt i k h
    have ew : (if i < n then wd i else 1) = wd i := if_pos hi
    have q1 := q.1
    have q2 := q.2.1
    rw [ew] at q1
    exact ⟨hi, q1, q2⟩
  · have ew : (if i < n then wd i else 1) = wd i := if_pos (hlt i k h)
    have ew' : (if i' < n then wd i' else 1) = wd i' := if_pos (hlt i' k' h')
    refine d3 i i' k k' hl h h' x y ?_ ?_
    · show InR W (if i < n then wd i else 1) (hg i) k x y
      rw [ew]
      exact r
    · show InR W (if i' < n then wd i' else 1) (hg i') k' x y
      rw [ew']
      exact r'
noncomputable def cnB (P : Nat → Prop) : Nat → Nat
  | 0 => 0
  | n + 1 => cnB P n + @ite Nat (P n) (Classical.propDecidable _) 1 0
theorem cnB_y {P : Nat → Prop} {n : Nat} (h : P n) : cnB P (n + 1) = cnB P n + 1 := by
  show cnB P n + _ = _
  rw [if_pos h]
theorem cnB_n {P : Nat → Prop} {n : Nat} (h : ¬ P n) : cnB P (n + 1) = cnB P n := by
  show cnB P n + _ = _
  rw [if_neg h, Nat.add_zero]
theorem s_rng {cx a m : Nat} (h1 : cx < 1000) (h2 : a < 1000) (h3 : m < 1000) : ((0 : Int32) ≤ nI cx - nI a ∧ nI cx - nI a ≤ nI m) ↔ (a ≤ cx ∧ cx < a + (m + 1)) := by
  rw [Int32.le_iff_toInt_le, Int32.le_iff_toInt_le, pk_sub_toInt (by omega) (by omega), nI_toInt (by omega), show (0 : Int32).toInt = 0 from rfl]
  omega
theorem dm100 {a b : Nat} (h : b < 100) : (100 * a + b) / 100 = a ∧ (100 * a + b) % 100 = b := by omega
def CovP (W : Nat) (wd hg : Nat → Nat) (o : Nat → Option Nat) (cx cy w : Nat) : Prop := ∃ k, o w = some k ∧ InR W (wd w) (hg w) k cx cy
section WQ
variable {fu : Nat} {A ro pa ea wa : Nat → Nat} {K T V N : Nat → Int32} {n np : Nat} {G : Nat → Pg} {ne : Nat} {ew : Nat → Nat} {eo es : Nat → Int32} {nw : Nat} {wp we : Nat → Nat} {wc : Nat → Int32} {wo : Nat → Option Nat} {W H : Nat} {X : Mem} {S : SM}
theorem lay_oG (pP : PrsP np G) (pW : WksP np ne nw G wp we wc wo) (pL : WalP W H) : (∀ i k, layG W H G ew eo es wp we wc wo nw i = some k → i < nw ∧ k % W + wdG G wp i ≤ W ∧ k / W + hgG G wp i ≤ H) ∧ ∀ i i' k k', i < i' → layG W H G ew eo es wp we wc wo nw i = some k → layG W H G ew eo es wp we wc wo nw i' = some k' → ∀ x y, InR W (wdG G wp i) (hgG G wp i) k x y → ¬ InR W (wdG G wp i') (hgG G wp i') k' x y := by
  refine lay_ok (ok := okG G ew eo es wp we wc wo) pL.2.1 (fun i hi => ?_)
  obtain ⟨l1, l2, l3, l4, l5, l6⟩ := (pP.2 _ (pW.2.1 i hi).1).lim
  unfold wdG
  omega
theorem x_covers {w cx cy : Nat} (P : PrsX A ro pa np G X) (Wk : WksX A ro pa ea wa nw wp we wc wo X) (Hg : HngX W wa nw (layG W H G ew eo es wp we wc wo nw) X) (pP : PrsP np G) (pW : WksP np ne nw G wp we wc wo) (pL : WalP W H) (hw : w < nw) (hx : cx < 40) (hy : cy < 40) : ∃ r, fX10_covers X (wa w) (nI cx) (nI cy) = some r ∧ TF r (CovP W (wdG G wp) (hgG G wp) (layG W H G ew eo es wp we wc wo nw) cx cy w) := by
  obtain ⟨w1, w2, w3, w4, w5, w6, w7⟩ := Wk.2.2 w hw
  obtain ⟨q1, -⟩ := pW.2.1 w hw
  have hB := pP.2 _ q1
  obtain ⟨l1, l2, l3, l4, l5, l6⟩ := hB.lim
  obtain ⟨os, pa9, wa9, fo, dr, ra, ua, oa, h1, h2, h3, h4, h5, -⟩ := (P.2 (wp w) q1).2
  obtain ⟨c1, c2⟩ := dr_cells h5 hB.2.2.2.1 ⟨l3, l4⟩ (fun z => (hB.2.2.2.2.1 z).2)
  have hg := Hg w hw
  unfold fX10_covers
  rw [if_pos w2]
  cases eo9 : layG W H G ew eo es wp we wc wo nw w with
  | none =>
    rw [eo9] at hg
    rw [if_pos (show mI X 1004 (wa w) = 0 from hg)]
    exact ⟨0, rfl, Or.inr ⟨rfl, fun ⟨k, z, _⟩ => by rw [eo9] at z; exact nomatch z⟩⟩
  | some k =>
    rw [eo9] at hg
    obtain ⟨g1, g2, g3⟩ := hg
    obtain ⟨o1, o2, o3⟩ := (lay_oG pP pW pL).1 w k eo9
    have hW := pL.2.1
    have hH := pL.2.2.2
    have cov : CovP W (wdG G wp) (hgG G wp) (layG W H G ew eo es wp we wc wo nw) cx cy w ↔ InR W (wdG G wp w) (hgG G wp w) k cx cy := ⟨fun ⟨k', z, q⟩ => by rw [eo9] at z; cases z; exact q, fun q => ⟨k, eo9, q⟩⟩
    have ew9 : pgc (G (wp w)) - pga (G (wp w)) + 1 = wdG G wp w := rfl
    have eh9 : pgd (G (wp w)) - pgb (G (wp w)) + 1 = hgG G wp w := rfl
    rw [ew9] at c1
    rw [eh9] at c2
    rw [if_neg (by rw [g1]; decide), g2, g3, w4]
    by_cases e1 : cx < k % W
    · rw [if_pos ((nI_ltI (by omega) (by omega)).mpr e1)]
      exact ⟨0, rfl, Or.inr ⟨rfl, fun z => by have := (cov.mp z).1; omega⟩⟩
    rw [if_neg (fun z => e1 ((nI_ltI (by omega) (by omega)).mp z)), bi_some, if_pos h1.1.1, h1.2.2.2.2.2.1, bi_some, if_pos h5.1, c1, bi_some, nI_add]
    by_cases e2 : k % W + wdG G wp w ≤ cx
    · rw [if_pos ((nI_leI (by omega) (by omega)).mpr e2)]
      exact ⟨0, rfl, Or.inr ⟨rfl, fun z => by have := (cov.mp z).2.1; omega⟩⟩
    rw [if_neg (fun z => e2 ((nI_leI (by omega) (by omega)).mp z))]
    by_cases e3 : cy < k / W
    · rw [if_pos ((nI_ltI (by omega) (by omega)).mpr e3)]
      exact ⟨0, rfl, Or.inr ⟨rfl, fun z => by have := (cov.mp z).2.2.1; omega⟩⟩
    rw [if_neg (fun z => e3 ((nI_ltI (by omega) (by omega)).mp z)), bi_some, if_pos h1.1.1, h1.2.2.2.2.2.1, bi_some, if_pos h5.1, c2, bi_some, nI_add]
    by_cases e4 : k / W + hgG G wp w ≤ cy
    · rw [if_pos ((nI_leI (by omega) (by omega)).mpr e4)]
      exact ⟨0, rfl, Or.inr ⟨rfl, fun z => by have := (cov.mp z).2.2.2; omega⟩⟩
    rw [if_neg (fun z => e4 ((nI_leI (by omega) (by omega)).mp z))]
    exact ⟨1, rfl, Or.inl ⟨rfl, cov.mpr ⟨by omega, by omega, by omega, by omega⟩⟩⟩
theorem s_covers {w cx cy : Nat} (hfu : 300 ≤ fu) (P : PrsS np G S) (Wk : WksS nw wp we wc S) (pP : PrsP np G) (pW : WksP np ne nw G wp we wc wo) (pL : WalP W H) (h30 : ar S 30 w = plc W (layG W H G ew eo es wp we wc wo nw w)) (hw : w < nw) (hx : cx < 40) (hy : cy < 40) : ∃ r, fX12_covers fu S (nI w) (nI cx) (nI cy) = some r ∧ TF r (CovP W (wdG G wp) (hgG G wp) (layG W H G ew eo es wp we wc wo nw) cx cy w) := by
  obtain ⟨w1, w2⟩ := Wk.2.1 w hw
  obtain ⟨q1, -⟩ := pW.2.1 w hw
  have hB := pP.2 _ q1
  obtain ⟨l1, l2, l3, l4, l5, l6⟩ := hB.lim
  obtain ⟨b1, b2, b3, b4⟩ := s_box (fu := fu) hfu P pP q1
  have hnw := pW.1
  have i26 : inS 0 26 (nI w) = true := inS_ok (by decide) rfl (by show w < 24; omega) (by decide)
  have i30 : inS 0 30 (nI w) = true := inS_ok (by decide) rfl (by show w < 24; omega) (by decide)
  unfold fX12_covers
  rw [if_pos i26, if_pos i30, if_pos i30, if_pos i30, nI_clamp (show w < 2 ^ 31 by omega), h30, w1]
  cases eo9 : layG W H G ew eo es wp we wc wo nw w with
  | none =>
    rw [if_pos (show plc W none = -1 from rfl)]
    exact ⟨0, rfl, Or.inr ⟨rfl, fun ⟨k, z, _⟩ => by rw [eo9] at z; exact nomatch z⟩⟩
  | some k =>
    obtain ⟨o1, o2, o3⟩ := (lay_oG pP pW pL).1 w k eo9
    have hW := pL.2.1
    have hH := pL.2.2.2
    have cov : CovP W (wdG G wp) (hgG G wp) (layG W H G ew eo es wp we wc wo nw) cx cy w ↔ InR W (wdG G wp w) (hgG G wp w) k cx cy := ⟨fun ⟨k', z, q⟩ => by rw [eo9] at z; cases z; exact q, fun q => ⟨k, eo9, q⟩⟩
    have ew9 : wdG G wp w = pgc (G (wp w)) - pga (G (wp w)) + 1 := rfl
    have eh9 : hgG G wp w = pgd (G (wp w)) - pgb (G (wp w)) + 1 := rfl
    have kx : k % W < 40 := by omega
    have ky : k / W < 40 := by omega
    have ep : plc W (some k) = nI (100 * (k % W) + k / W) := rfl
    have d1 : nI (100 * (k % W) + k / W) / (100 : Int32) = nI (k % W) := by
      have := pk_div (a := 100 * (k % W) + k / W) (d := 100) (by omega) (by decide) (by decide)
      rw [(dm100 (a := k % W) (show k / W < 100 by omega)).1] at this
      exact this
    have d2 : nI (100 * (k % W) + k / W) - nI (100 * (k % W) + k / W) / (100 : Int32) * (100 : Int32) = nI (k / W) := by
      have := pk_rem (a := 100 * (k % W) + k / W) (d := 100) (by omega) (by decide) (by decide)
      rw [(dm100 (a := k % W) (show k / W < 100 by omega)).2] at this
      exact this
    rw [ep, if_neg (nI_nm1 (by omega)), d2, d1, b1, bi_some, b2, bi_some, pk_sub l3, q_isIn, bi_some, b3, bi_some, b4, bi_some, pk_sub l4, q_isIn, bi_some]
    have t1 := s_rng (cx := cx) (a := k % W) (m := pgc (G (wp w)) - pga (G (wp w))) (by omega) (by omega) (by omega)
    have t2 := s_rng (cx := cy) (a := k / W) (m := pgd (G (wp w)) - pgb (G (wp w))) (by omega) (by omega) (by omega)
    by_cases e1 : k % W ≤ cx ∧ cx < k % W + (pgc (G (wp w)) - pga (G (wp w)) + 1)
    · rw [if_pos (t1.mpr e1), if_neg n10]
      by_cases e2 : k / W ≤ cy ∧ cy < k / W + (pgd (G (wp w)) - pgb (G (wp w)) + 1)
      · rw [if_pos (t2.mpr e2), if_neg n10]
        exact ⟨1, rfl, Or.inl ⟨rfl, cov.mpr ⟨e1.1, by rw [ew9]; exact e1.2, e2.1, by rw [eh9]; exact e2.2⟩⟩⟩
      · rw [if_neg (fun z => e2 (t2.mp z)), if_pos rfl]
        refine ⟨0, rfl, Or.inr ⟨rfl, fun z => e2 ?_⟩⟩
        have q := cov.mp z
        exact ⟨q.2.2.1, q.2.2.2⟩
    · rw [if_neg (fun z => e1 (t1.mp z)), if_pos rfl]
      refine ⟨0, rfl, Or.inr ⟨rfl, fun z => e1 ?_⟩⟩
      have q := cov.mp z
      exact ⟨q.1, q.2.1⟩
theorem x_wall24 {cx cy : Nat} (B : BaseX A ro X) (P : PrsX A ro pa np G X) (Wk : WksX A ro pa ea wa nw wp we wc wo X) (Hg : HngX W wa nw (layG W H G ew eo es wp we wc wo nw) X) (pP : PrsP np G) (pW : WksP np ne nw G wp we wc wo) (pL : WalP W H) (hx : cx < 40) (hy : cy < 40) : ∀ (t i m : Nat), i + t = nw → (∀ v, v < i → ¬ CovP W (wdG G wp) (hgG G wp) (layG W H G ew eo es wp we wc wo nw) cx cy v) → ∃ o, fX11_onWall_L24 fu X (m + t + 1) (A 0) (nI cx) (nI cy) (nI i) = some (.inr (oW o)) ∧ OrgP (CovP W (wdG G wp) (hgG G wp) (layG W H G ew eo es wp we wc wo nw) cx cy) 0 nw o := by
  have hnw := pW.1
  have h0 := B.k 0 11 0 (by decide)
  intro t
  induction t with
  | zero =>
    intro i m hi hn
    have hi : i = nw := hi
    subst hi
    refine ⟨none, ?_, fun v _ hv => hn v hv⟩
    show fX11_onWall_L24b fu X (fX11_onWall_L24 fu X m) (A 0) (nI cx) (nI cy) (nI i) = _
    unfold fX11_onWall_L24b
    rw [if_pos h0, Wk.1, if_pos (Int32.le_refl _)]
    rfl
  | succ t ih =>
    intro i m hi hn
    obtain ⟨w1, w2, -⟩ := Wk.2.2 i (by omega)
    obtain ⟨r, c1, c2⟩ := x_covers P Wk Hg pP pW pL (by omega : i < nw) hx hy
    show ∃ o, fX11_onWall_L24b fu X (fX11_onWall_L24 fu X (m + t + 1)) (A 0) (nI cx) (nI cy) (nI i) = some (.inr (oW o)) ∧ _
    unfold fX11_onWall_L24b fX11_onWall_L66
    rw [if_pos h0, Wk.1, if_neg (fun q => by have := (nI_leI (by omega) (by omega)).mp q; omega), B.r 1107 0 8 (by decide), bi_some, alen_of (B.k 8 26 24 (by decide)) (by decide), bi_some, if_neg (fun q => by have := (nI_leI (by omega) (by omega)).mp q; omega), bi_some, if_pos (inb_of (t := 6) (B.k 8 26 24 (by decide)) (by omega : i < 24) (by omega)), nI_clamp (by omega), w1, if_neg (by exact fun q => nomatch q), bi_some, if_pos w2, c1, bi_some, nI_1]
    rcases c2 with ⟨rfl, c2⟩ | ⟨rfl, c2⟩
    · rw [if_neg n10]
      exact ⟨some i, rfl, Nat.zero_le i, by omega, c2, fun u _ hu => hn u hu⟩
    · rw [if_pos rfl]
      refine ih (i + 1) m (by omega) (fun v hv => ?_)
      by_cases e : v = i
      · rw [e]; exact c2
      · exact hn v (by omega)
theorem s_wall51 {cx cy : Nat} (hfu : 300 ≤ fu) (P : PrsS np G S) (Wk : WksS nw wp we wc S) (pP : PrsP np G) (pW : WksP np ne nw G wp we wc wo) (pL : WalP W H) (h30 : ∀ w, w < nw → ar S 30 w = plc W (layG W H G ew eo es wp we wc wo nw w)) (hx : cx < 40) (hy : cy < 40) : ∀ (t i m : Nat) (o : Option Nat), i + t = nw → (∀ v, o = some v → v < i ∧ CovP W (wdG G wp) (hgG G wp) (layG W H G ew eo es wp we wc wo nw) cx cy v) → (o = none → ∀ v, v < i → ¬ CovP W (wdG G wp) (hgG G wp) (layG W H G ew eo es wp we wc wo nw) cx cy v) → ∃ o', fX12_onWall_L51 fu (m + t + 1) S (nI cx) (nI cy) (oW o) (nI i) = some (oW o', S) ∧ (∀ v, o' = some v → v < nw ∧ CovP W (wdG G wp) (hgG G wp) (layG W H G ew eo es wp we wc wo nw) cx cy v) ∧ (o' = none → ∀ v, v < nw → ¬ CovP W (wdG G wp) (hgG G wp) (layG W H G ew eo es wp we wc wo nw) cx cy v) := by
  have hnw := pW.1
  intro t
  induction t with
  | zero =>
    intro i m o hi h1 h2
    have hi : i = nw := hi
    subst hi
    refine ⟨o, ?_, h1, h2⟩
    show fX12_onWall_L51b fu (fX12_onWall_L51 fu m) S (nI cx) (nI cy) (oW o) (nI i) = _
    unfold fX12_onWall_L51b
    rw [Wk.1, if_pos (Int32.le_refl _)]
  | succ t ih =>
    intro i m o hi h1 h2
    obtain ⟨r, c1, c2⟩ := s_covers (fu := fu) hfu P Wk pP pW pL (h30 i (by omega)) (by omega : i < nw) hx hy
    show ∃ o', fX12_onWall_L51b fu (fX12_onWall_L51 fu (m + t + 1)) S (nI cx) (nI cy) (oW o) (nI i) = some (oW o', S) ∧ _
    unfold fX12_onWall_L51b fX12_onWall_L77
    rw [Wk.1, if_neg (fun q => by have := (nI_leI (by omega) (by omega)).mp q; omega), c1, bi_some, nI_1]
    rcases c2 with ⟨rfl, c2⟩ | ⟨rfl, c2⟩
    · rw [if_neg n10]
      exact ih (i + 1) m (some i) (by omega) (fun v hv => by cases hv; exact ⟨Nat.lt_succ_self i, c2⟩) (fun q => nomatch q)
    · rw [if_pos rfl]
      refine ih (i + 1) m o (by omega) (fun v hv => ⟨Nat.lt_succ_of_lt (h1 v hv).1, (h1 v hv).2⟩) (fun q v hv => ?_)
      by_cases e : v = i
      · rw [e]; exact c2
      · exact h2 q v (by omega)
theorem x_cell (B : BaseX A ro X) (Wl : WalX A W H X) (pL : WalP W H) (u v : Int32) : (∃ cx cy, cx < W ∧ u = nI cx ∧ cy < H ∧ v = nI cy ∧ fX9_hasCell X (A 5) u v = some 1) ∨ (¬ ((∃ j, j < W ∧ u = nI j) ∧ ∃ j, j < H ∧ v = nI j) ∧ fX9_hasCell X (A 5) u v = some 0) := by
  obtain ⟨p1, p2, p3, p4⟩ := pL
  have h5 := B.k 5 9 0 (by decide)
  unfold fX9_hasCell
  rw [if_pos h5, Wl.1, Wl.2]
  rcases pk_ix u (show W < 2 ^ 31 by omega) with h | h | ⟨j, hj, rfl⟩
  · rw [if_pos h]
    exact Or.inr ⟨fun ⟨⟨j, hj, e⟩, _⟩ => nI_pos (n := j) (by omega) (by rw [e] at h; exact h), rfl⟩
  · refine Or.inr ⟨fun ⟨⟨j, hj, e⟩, _⟩ => by rw [e] at h; have := (nI_leI (by omega) (by omega)).mp h; omega, ?_⟩
    by_cases h0 : u < 0
    · rw [if_pos h0]
    · rw [if_neg h0, if_pos h]
  · rw [if_neg (nI_pos (by omega)), if_neg (fun q => by have := (nI_leI (by omega) (by omega)).mp q; omega)]
    rcases pk_ix v (show H < 2 ^ 31 by omega) with h | h | ⟨i, hi, rfl⟩
    · rw [if_pos h]
      exact Or.inr ⟨fun ⟨_, ⟨j, hj, e⟩⟩ => nI_pos (n := j) (by omega) (by rw [e] at h; exact h), rfl⟩
    · refine Or.inr ⟨fun ⟨_, ⟨j, hj, e⟩⟩ => by rw [e] at h; have := (nI_leI (by omega) (by omega)).mp h; omega, ?_⟩
      by_cases h0 : v < 0
      · rw [if_pos h0]
      · rw [if_neg h0, if_pos h]
    · rw [if_neg (nI_pos (by omega)), if_neg (fun q => by have := (nI_leI (by omega) (by omega)).mp q; omega)]
      exact Or.inl ⟨j, i, hj, rfl, hi, rfl, rfl⟩
end WQ
theorem t_onWall {fu : Nat} (hfu : 5000 ≤ fu) : sem_onWall Rel fu := by
  intro x X S q0 q1 hR hF
  have hR0 := hR
  obtain ⟨A, ro, pa, ea, wa, K, T, V, N, n, np, G, ne, ew, eo, es, nw, wp, we, wc, wo, W, H, rfl, ⟨B, D, P, E, Wk, Wl, Hg⟩, ⟨sD, sP, sE, sW, sL, s18⟩, ⟨pD, pP, pE, pW, pL⟩⟩ := hR
  have hnw := pW.1
  have hx := B.k 0 11 0 (by decide)
  have hW := pL.2.1
  have hH := pL.2.2.2
  obtain ⟨r, e1, e2⟩ := s_in (S := S) (v := q0) (N := W) (by omega)
  obtain ⟨r', f1, f2⟩ := s_in (S := S) (v := q1) (N := H) (by omega)
  unfold fX11_onWall fX12_onWall fX12_onWall_L33
  rw [if_pos hx, B.r 1104 0 5 (by decide), bi_some, if_pos (B.k 5 9 0 (by decide)), sL.1, sL.2, e1, bi_some, f1, bi_some]
  rcases x_cell B Wl pL q0 q1 with ⟨cx, cy, hcx, rfl, hcy, rfl, hc⟩ | ⟨hn, hc⟩
  · have er : r = 1 := TF_un e2 (Or.inl ⟨rfl, cx, hcx, rfl⟩)
    have er' : r' = 1 := TF_un f2 (Or.inl ⟨rfl, cy, hcy, rfl⟩)
    obtain ⟨S1, k1, k2, k3⟩ := s_hangs (fu := fu) hfu (sP.sk (SK.t (v := 0))) (sE.sk (SK.t (v := 0))) (sW.sk (SK.t (v := 0))) (sL.sk (SK.t (v := 0))) pP pE pW pL
    have hs : sc S1 0 = 0 := by rw [k2.1, sc_uc, if_pos rfl]
    have sk1 : SK S S1 := SK.t.trans k2.sk
    obtain ⟨o, z1, z2⟩ := x_wall24 (fu := fu) B P Wk Hg pP pW pL (by omega : cx < 40) (by omega : cy < 40) nw 0 (fu - nw - 1) (by omega) (fun v hv => absurd hv (Nat.not_lt_zero v))
    rw [show fu - nw - 1 + nw + 1 = fu by omega] at z1
    obtain ⟨o', y1, y2, y3⟩ := s_wall51 (fu := fu) (by omega) (sP.sk sk1) (sW.sk sk1) pP pW pL k3 (by omega : cx < 40) (by omega : cy < 40) nw 0 (fu - nw - 1) none (by omega) (fun v hv => nomatch hv) (fun _ v hv => absurd hv (Nat.not_lt_zero v))
    rw [show fu - nw - 1 + nw + 1 = fu by omega] at y1
    have z1 : fX11_onWall_L24 fu X fu (A 0) (nI cx) (nI cy) 0 = _ := z1
    have y1 : fX12_onWall_L51 fu fu S1 (nI cx) (nI cy) (-1) 0 = _ := y1
    have eo9 : o = o' := by
      cases o' with
      | none =>
        cases o with
        | none => rfl
        | some v => exact absurd z2.2.2.1 (y3 rfl v z2.2.1)
      | some v' =>
        obtain ⟨v1, v2⟩ := y2 v' rfl
        cases o with
        | none => exact absurd v2 (z2 v' (Nat.zero_le _) v1)
        | some v =>
          obtain ⟨k, g1, g2⟩ := z2.2.2.1
          obtain ⟨k', g3, g4⟩ := v2
          rcases Nat.lt_trichotomy v v' with q | q | q
          · exact absurd g4 ((lay_oG pP pW pL).2 v v' k k' q g1 g3 cx cy g2)
          · rw [q]
          · exact absurd g2 ((lay_oG pP pW pL).2 v' v k' k q g3 g1 cx cy g4)
    unfold fX12_onWall_L34
    rw [hc, bi_some, if_neg n10, z1, er, if_neg n10, er', if_neg n10, s_hold0, bW_some, if_neg n10, k1, bi_some, y1, eo9]
    exact ⟨_, _, _, rfl, rfl, hs, rfl, hR0.sk sk1, K9⟩
  · have bad : fX12_onWall_L34 fu S q0 q1 1 = some (0, uc S 0 1) := by
      unfold fX12_onWall_L34
      rw [s_holdN (by decide), bW_some, if_pos rfl]
    rw [hc, bi_some, if_pos rfl, bad]
    refine ⟨_, 0, uc S 0 1, rfl, ?_, sem_ex (i := 0) (by decide) (by decide) rfl (hR0.sk SK.t)⟩
    rcases e2 with ⟨rfl, e2⟩ | ⟨rfl, e2⟩
    · rcases f2 with ⟨rfl, f2⟩ | ⟨rfl, f2⟩
      · exact absurd ⟨e2, f2⟩ hn
      · rw [if_neg n10, if_pos rfl]
    · rw [if_pos rfl]
