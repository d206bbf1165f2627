/-! THE CLASS lays the wall anew -/
theorem w_empty {fu wl ta : Nat} {Q : Nat → Prop} : ∀ (t i m : Nat) (X : Mem), i + t = 40 → mK X wl = some (9, 0) → mR X 900 wl = some ta → mK X ta = some (22, 40) → (∀ r, r < i → aJ X ta r = 0) → ∃ X', fX9_makeEmpty_L2 fu (m + t + 1) X wl (nI i) = some X' ∧ LWF ta Q X X' ∧ ∀ r, r < 40 → aJ X' ta r = 0 := by
  intro t
  induction t with
  | zero =>
    intro i m X hi h1 h2 h3 h4
    have hi : i = 40 := hi
    subst hi
    refine ⟨X, ?_, LWF.rfl9, h4⟩
    show fX9_makeEmpty_L2b fu (fX9_makeEmpty_L2 fu m) X wl (nI 40) = _
    unfold fX9_makeEmpty_L2b
    rw [if_pos h1, h2, bi_some, alen_of h3 (by decide), bi_some, if_pos (Int32.le_refl _)]
  | succ t ih =>
    intro i m X hi h1 h2 h3 h4
    show ∃ X', fX9_makeEmpty_L2b fu (fX9_makeEmpty_L2 fu (m + t + 1)) X wl (nI i) = some X' ∧ _
    unfold fX9_makeEmpty_L2b
    rw [if_pos h1, h2, bi_some, alen_of h3 (by decide), bi_some, if_neg (fun q => by have := (nI_leI (by omega) (by omega)).mp q; omega), bi_some, if_pos (inb_of (t := 2) h3 (by omega : i < 40) (by omega)), nI_clamp (by omega), nI_1]
    obtain ⟨X', z1, z2, z3⟩ := ih (i + 1) m (sJ X ta i 0) (by omega) h1 h2 h3 (fun r hr => by
      rw [aJ_sJ]
      by_cases e : r = i
      · rw [if_pos ⟨rfl, e⟩]
      · rw [if_neg (fun q => e q.2)]
        exact h4 r (by omega))
    exact ⟨X', z1, LWF.sJ.trans z2, z3⟩
theorem w_place {fu wl ta W H w h a pr dr : Nat} {X : Mem} {rows : Nat → Int64} (hfu : 200 ≤ fu) (hw : w < 18) (hw0 : 0 < w) (hh : h < 18) (hh0 : 0 < h) (hW : W ≤ 40) (hW0 : 0 < W) (hH : H ≤ 40) (h1 : mK X wl = some (9, 0)) (h2 : mR X 900 wl = some ta) (h3 : mK X ta = some (22, 40)) (h4 : mI X 901 wl = nI W) (h5 : mI X 902 wl = nI H) (h6 : mK X a = some (10, 0)) (h7 : mI X 1004 a = 0) (hr : ∀ r, r < 40 → aJ X ta r = rows r) (h8 : mR X 1000 a = some pr) (h9 : mK X pr = some (5, 0)) (h10 : mR X 505 pr = some dr) (h11 : mK X dr = some (2, 0)) (h12 : fX2_cellsWide X dr = some (nI w)) (h13 : fX2_cellsHigh X dr = some (nI h)) :
    ∃ o X', fX9_place fu X wl (some a) = some X' ∧ FF (FitK rows W H w h) (W * H) o ∧ LWF ta (fun b => b = a) X X' ∧ HgW W o X' a ∧ ∀ r, r < 40 → aJ X' ta r = hangR W w h rows o r := by
  unfold fX9_place
  rw [bi_some, if_pos h6, h8, bi_some, if_pos h9, h10, bi_some, if_pos h11, h12, bi_some, bi_some, if_pos h9, h10, bi_some, if_pos h11, h13, bi_some]
  have k := w_place32 (fu := fu) (w := w) (h := h) (a := a) hfu hw hw0 hh hh0 hW hW0 hH h1 h2 h3 h4 h5 h6 h7 hr (H + 1) 0 (fu - (H + 1) - 1) (by omega) (fun k hk => absurd hk (Nat.not_lt_zero _))
  rw [show fu - (H + 1) - 1 + (H + 1) + 1 = fu by omega] at k
  exact k
theorem w_doubt {X : Mem} {a : Nat} {o : Option Nat} {v : Int32} (h1 : mK X a = some (10, 0)) (h2 : mI X 1002 a = oW o) (h3 : mI X 1003 a = v) (ho : ∀ j, o = some j → j < 24) : ∃ r, fX10_isInDoubt X a = some r ∧ TF r (o ≠ none ∧ v = 0) := by
  unfold fX10_isInDoubt
  rw [if_pos h1, h2, h3]
  cases o with
  | none =>
    rw [if_pos (show oW none = -1 from rfl)]
    exact ⟨0, rfl, Or.inr ⟨rfl, fun q => q.1 rfl⟩⟩
  | some j =>
    have hj := ho j rfl
    rw [if_neg (show ¬ oW (some j) = -1 from nI_nm1 (by omega))]
    by_cases e : v = 0
    · rw [if_pos e]
      exact ⟨1, rfl, Or.inl ⟨rfl, fun q => (nomatch q), e⟩⟩
    · rw [if_neg e]
      exact ⟨0, rfl, Or.inr ⟨rfl, fun q => e q.2⟩⟩
/-- what the wall's laying reads, wherever it stands -/
def LyX (x wr wl ta W H nw : Nat) (wa wp dr : Nat → Nat) (wd hg : Nat → Nat) (wo : Nat → Option Nat) (wc : Nat → Int32) (X : Mem) : Prop := mK X x = some (11, 0) ∧ mI X 1110 x = nI nw ∧ mR X 1107 x = some wr ∧ mK X wr = some (26, 24) ∧ mR X 1104 x = some wl ∧ mK X wl = some (9, 0) ∧ mR X 900 wl = some ta ∧ mK X ta = some (22, 40) ∧ mI X 901 wl = nI W ∧ mI X 902 wl = nI H ∧ ∀ i, i < nw → aR X wr i = some (wa i) ∧ mK X (wa i) = some (10, 0) ∧ mR X 1000 (wa i) = some (wp i) ∧ mK X (wp i) = some (5, 0) ∧ mR X 505 (wp i) = some (dr i) ∧ mK X (dr i) = some (2, 0) ∧ fX2_cellsWide X (dr i) = some (nI (wd i)) ∧ fX2_cellsHigh X (dr i) = some (nI (hg i)) ∧ mI X 1002 (wa i) = oW (wo i) ∧ mI X 1003 (wa i) = wc i
theorem cells_cg {X X1 : Mem} {d : Nat} (h1 : mK X1 d = mK X d) (h2 : mI X1 202 d = mI X 202 d) (h3 : mI X1 203 d = mI X 203 d) (h4 : mI X1 204 d = mI X 204 d) (h5 : mI X1 205 d = mI X 205 d) (h6 : mI X1 206 d = mI X 206 d) : fX2_cellsWide X1 d = fX2_cellsWide X d ∧ fX2_cellsHigh X1 d = fX2_cellsHigh X d := by
  unfold fX2_cellsWide fX2_cellsHigh
  rw [h1, h2, h3, h4, h5, h6]
  exact ⟨rfl, rfl⟩
theorem LyX.fr {x wr wl ta W H nw : Nat} {wa wp dr wd hg : Nat → Nat} {wo : Nat → Option Nat} {wc : Nat → Int32} {X X1 : Mem} {Q : Nat → Prop} (h : LyX x wr wl ta W H nw wa wp dr wd hg wo wc X) (k : LWF ta Q X X1) : LyX x wr wl ta W H nw wa wp dr wd hg wo wc X1 := by
  obtain ⟨k1, k2, k3, k4, k5, k6, k7⟩ := k
  have i9 : ∀ i a, (i < 1004 ∨ 1006 < i) → mI X1 i a = mI X i a := fun i a hi => k7 i a (Or.inl hi)
  have cw : ∀ d, fX2_cellsWide X1 d = fX2_cellsWide X d ∧ fX2_cellsHigh X1 d = fX2_cellsHigh X d := fun d => cells_cg (by rw [k1]) (i9 _ _ (by omega)) (i9 _ _ (by omega)) (i9 _ _ (by omega)) (i9 _ _ (by omega)) (i9 _ _ (by omega))
  unfold LyX
  rw [k1, k2, k4, i9 1110 x (by omega), i9 901 wl (by omega), i9 902 wl (by omega)]
  refine ⟨h.1, h.2.1, h.2.2.1, h.2.2.2.1, h.2.2.2.2.1, h.2.2.2.2.2.1, h.2.2.2.2.2.2.1, h.2.2.2.2.2.2.2.1, h.2.2.2.2.2.2.2.2.1, h.2.2.2.2.2.2.2.2.2.1, fun i hi => ?_⟩
  rw [(cw (dr i)).1, (cw (dr i)).2, i9 1002 (wa i) (by omega), i9 1003 (wa i) (by omega)]
  exact h.2.2.2.2.2.2.2.2.2.2 i hi
theorem w_lay9 {fu x wr wl ta W H nw : Nat} {wa wp dr wd hg : Nat → Nat} {wo : Nat → Option Nat} {wc : Nat → Int32} {Mt : Nat → Prop} {X0 : Mem} (hfu : 300 ≤ fu) (hnw : nw ≤ 24) (hW : W ≤ 40) (hW0 : 0 < W) (hH : H ≤ 40) (hwd : ∀ i, i < nw → 0 < wd i ∧ wd i < 18 ∧ 0 < hg i ∧ hg i < 18) (hwa : ∀ i j, i < nw → j < nw → wa i = wa j → i = j) (hwo : ∀ i j, i < nw → wo i = some j → j < 24)
    (hm : ∀ i X1, i < nw → LWF ta (fun b => ∃ i, i < nw ∧ b = wa i) X0 X1 → ∃ r, fX10_meetsExercise fu X1 (wa i) = some r ∧ TF r (Mt i)) : ∀ (t i m : Nat) (X : Mem), i + t = nw → LWF ta (fun b => ∃ i, i < nw ∧ b = wa i) X0 X → LyX x wr wl ta W H nw wa wp dr wd hg wo wc X → (∀ r, r < 40 → aJ X ta r = (layB W H wd hg (fun i => Mt i ∧ ¬ (wo i ≠ none ∧ wc i = 0)) i).1 r) → (∀ j, j < i → HgW W ((layB W H wd hg (fun i => Mt i ∧ ¬ (wo i ≠ none ∧ wc i = 0)) i).2 j) X (wa j)) →
    ∃ X', fX11_layWall_L9 fu (m + t + 1) X x (nI i) = some X' ∧ LWF ta (fun b => ∃ i, i < nw ∧ b = wa i) X0 X' ∧ ∀ j, j < nw → HgW W ((layB W H wd hg (fun i => Mt i ∧ ¬ (wo i ≠ none ∧ wc i = 0)) nw).2 j) X' (wa j) := by
  intro t
  induction t with
  | zero =>
    intro i m X hi h0 hL h1 h2
    have hi : i = nw := hi
    subst hi
    refine ⟨X, ?_, h0, h2⟩
    show fX11_layWall_L9b fu (fX11_layWall_L9 fu m) X x (nI i) = _
    unfold fX11_layWall_L9b
    rw [if_pos hL.1, hL.2.1, if_pos (Int32.le_refl _)]
  | succ t ih =>
    intro i m X hi h0 hL h1 h2
    have hin : i < nw := by omega
    obtain ⟨a1, a2, a3, a4, a5, a6, a7, a8, a9, a10⟩ := hL.2.2.2.2.2.2.2.2.2.2 i hin
    obtain ⟨b1, b2, b3, b4⟩ := hwd i hin
    have f1 : LWF ta (fun b => ∃ i, i < nw ∧ b = wa i) X (wI X 1004 (wa i) 0) := LWF.wI (by omega) ⟨i, hin, rfl⟩
    have hL1 := hL.fr f1
    have z1 : mI (wI X 1004 (wa i) 0) 1004 (wa i) = 0 := if_pos ⟨rfl, rfl⟩
    have z2 : ∀ j k, j < nw → j ≠ i → mI (wI X 1004 (wa i) 0) k (wa j) = mI X k (wa j) := fun j k hj hne => if_neg (fun q => hne (hwa j i hj hin q.2))
    have z3 : ∀ r, aJ (wI X 1004 (wa i) 0) ta r = aJ X ta r := fun r => rfl
    show ∃ X', fX11_layWall_L9b fu (fX11_layWall_L9 fu (m + t + 1)) X x (nI i) = some X' ∧ _
    unfold fX11_layWall_L9b fX11_layWall_L64
    rw [if_pos hL.1, hL.2.1, if_neg (fun q => by have := (nI_leI (by omega) (by omega)).mp q; omega), hL.2.2.1, bi_some, alen_of hL.2.2.2.1 (by decide), bi_some, if_neg (fun q => by have := (nI_leI (by omega) (by omega)).mp q; omega), bi_some, if_pos (inb_of (t := 6) hL.2.2.2.1 (by omega : i < 24) (by omega)), nI_clamp (by omega), a1, if_neg (by exact fun q => nomatch q), bi_some, if_pos a2, nI_1]
    generalize wI X 1004 (wa i) 0 = X1 at f1 hL1 z1 z2 z3 ⊢
    have hh : ∀ j, j < i → HgW W ((layB W H wd hg (fun i => Mt i ∧ ¬ (wo i ≠ none ∧ wc i = 0)) i).2 j) X1 (wa j) := by
      intro j hj
      have q := h2 j hj
      unfold HgW at q ⊢
      rw [z2 j _ (by omega) (by omega), z2 j _ (by omega) (by omega), z2 j _ (by omega) (by omega)]
      exact q
    obtain ⟨c1, c2, c3, c4, c5, c6, c7, c8, c9, c10⟩ := hL1.2.2.2.2.2.2.2.2.2.2 i hin
    -- it does not hang
    have skip : ¬ (Mt i ∧ ¬ (wo i ≠ none ∧ wc i = 0)) → ∃ X', fX11_layWall_L9 fu (m + t + 1) X1 x (nI (i + 1)) = some X' ∧ LWF ta (fun b => ∃ i, i < nw ∧ b = wa i) X0 X' ∧ ∀ j, j < nw → HgW W ((layB W H wd hg (fun i => Mt i ∧ ¬ (wo i ≠ none ∧ wc i = 0)) nw).2 j) X' (wa j) := by
      intro hno
      refine ih (i + 1) m X1 (by omega) (h0.trans f1) hL1 (fun r hr => ?_) (fun j hj => ?_)
      · rw [layB_n hno, z3]
        exact h1 r hr
      · rw [layB_n hno]
        by_cases e : j = i
        · rw [e, layB_none i i (Nat.le_refl i)]
          exact z1
        · exact hh j (by omega)
    obtain ⟨r, w1, w2⟩ := hm i X1 hin (h0.trans f1)
    rw [w1, bi_some]
    rcases w2 with ⟨rfl, w2⟩ | ⟨rfl, w2⟩
    · rw [if_neg (by decide)]
      obtain ⟨r, v1, v2⟩ := w_doubt c2 c9 c10 (fun j hj => hwo i j hin hj)
      rw [v1, bi_some]
      rcases v2 with ⟨rfl, v2⟩ | ⟨rfl, v2⟩
      · rw [if_neg (by decide)]
        exact skip (fun q => q.2 v2)
      · have hyes : Mt i ∧ ¬ (wo i ≠ none ∧ wc i = 0) := ⟨w2, v2⟩
        rw [if_pos rfl, hL1.2.2.2.2.1, bi_some, if_pos hL1.2.2.2.2.2.1]
        obtain ⟨o, X2, p1, p2, p3, p4, p5⟩ := w_place (fu := fu) (rows := (layB W H wd hg (fun i => Mt i ∧ ¬ (wo i ≠ none ∧ wc i = 0)) i).1) (by omega) b2 b1 b4 b3 hW hW0 hH hL1.2.2.2.2.2.1 hL1.2.2.2.2.2.2.1 hL1.2.2.2.2.2.2.2.1 hL1.2.2.2.2.2.2.2.2.1 hL1.2.2.2.2.2.2.2.2.2.1 c2 z1 (fun r hr => by rw [z3]; exact h1 r hr) c3 c4 c5 c6 c7 c8
        rw [p1, bi_some]
        have eo : o = hangF W H (wd i) (hg i) (layB W H wd hg (fun i => Mt i ∧ ¬ (wo i ≠ none ∧ wc i = 0)) i).1 := FF_un p2 (ffn_ok _)
        have f2 : LWF ta (fun b => ∃ i, i < nw ∧ b = wa i) X1 X2 := p3.mono (fun b hb => ⟨i, hin, hb⟩)
        refine ih (i + 1) m X2 (by omega) ((h0.trans f1).trans f2) (hL1.fr f2) (fun r hr => ?_) (fun j hj => ?_)
        · rw [p5 r hr, layB_y hyes, eo]
        · rw [layB_y hyes]
          show HgW W (if j = i then _ else _) X2 (wa j)
          by_cases e : j = i
          · rw [if_pos e, e, ← eo]
            exact p4
          · rw [if_neg e]
            have q := hh j (by omega)
            have nq : ¬ (fun b => b = wa i) (wa j) := fun q => e (hwa j i (by omega) hin q)
            unfold HgW at q ⊢
            rw [p3.2.2.2.2.2.2 _ _ (Or.inr nq), p3.2.2.2.2.2.2 _ _ (Or.inr nq), p3.2.2.2.2.2.2 _ _ (Or.inr nq)]
            exact q
    · rw [if_pos rfl]
      exact skip (fun q => w2 q.1)
theorem w_layWall {fu x wr wl ta W H nw : Nat} {wa wp dr wd hg : Nat → Nat} {wo : Nat → Option Nat} {wc : Nat → Int32} {Mt : Nat → Prop} {X : Mem} (hfu : 300 ≤ fu) (hnw : nw ≤ 24) (hW : W ≤ 40) (hW0 : 0 < W) (hH : H ≤ 40) (hwd : ∀ i, i < nw → 0 < wd i ∧ wd i < 18 ∧ 0 < hg i ∧ hg i < 18) (hwa : ∀ i j, i < nw → j < nw → wa i = wa j → i = j) (hwo : ∀ i j, i < nw → wo i = some j → j < 24) (hL : LyX x wr wl ta W H nw wa wp dr wd hg wo wc X)
    (hm : ∀ i X1, i < nw → LWF ta (fun b => ∃ i, i < nw ∧ b = wa i) X X1 → ∃ r, fX10_meetsExercise fu X1 (wa i) = some r ∧ TF r (Mt i)) :
    ∃ X', fX11_layWall fu X x = some X' ∧ LWF ta (fun b => ∃ i, i < nw ∧ b = wa i) X X' ∧ ∀ j, j < nw → HgW W ((layB W H wd hg (fun i => Mt i ∧ ¬ (wo i ≠ none ∧ wc i = 0)) nw).2 j) X' (wa j) := by
  obtain ⟨X1, e1, e2, e3⟩ := w_empty (fu := fu) (Q := fun b => ∃ i, i < nw ∧ b = wa i) 40 0 (fu - 41) X rfl hL.2.2.2.2.2.1 hL.2.2.2.2.2.2.1 hL.2.2.2.2.2.2.2.1 (fun r hr => absurd hr (Nat.not_lt_zero r))
  rw [show fu - 41 + 40 + 1 = fu by omega] at e1
  have e1 : fX9_makeEmpty fu X wl = some X1 := e1
  unfold fX11_layWall
  rw [if_pos hL.1, hL.2.2.2.2.1, bi_some, if_pos hL.2.2.2.2.2.1, e1, bi_some]
  have k := w_lay9 (fu := fu) (Mt := Mt) hfu hnw hW hW0 hH hwd hwa hwo hm nw 0 (fu - nw - 1) X1 (by omega) e2 (hL.fr e2) (fun r hr => by rw [e3 r hr]; rfl) (fun j hj => absurd hj (Nat.not_lt_zero j))
  rw [show fu - nw - 1 + nw + 1 = fu by omega] at k
  exact k
