/-! THE REFERENCE: copies, and all works hung -/
theorem OrgP_dn {cp : Nat → Prop} {j w : Nat} {o : Option Nat} (h : OrgP cp (j + 1) w o) (hn : ¬ cp j) : OrgP cp j w o := by
  cases o with
  | none =>
    intro v h1 h2
    by_cases e : v = j
    · rw [e]; exact hn
    · exact h v (by omega) h2
  | some v =>
    obtain ⟨h1, h2, h3, h4⟩ := h
    refine ⟨by omega, h2, h3, fun u a b => ?_⟩
    by_cases e : u = j
    · rw [e]; exact hn
    · exact h4 u (by omega) b
theorem r_cop6 {fu w : Nat} {wp we : Nat → Nat} {pu : Nat → Int32} {Fo : Nat → Prop} {S0 : SM} (hw : w < 24) (h1 : ∀ j, j ≤ w → ar S0 26 j = nI (wp j) ∧ ar S0 27 j = nI (we j) ∧ wp j < 30 ∧ we j < 6 ∧ ar S0 4 (wp j) = pu j) (ho : ∀ j S1, j < w → LF S0 S1 → ∃ r S2, fX12_oneForm fu S1 (nI (wp j)) (nI (wp w)) = some (r, S2) ∧ LF S1 S2 ∧ TF r (Fo j)) : ∀ (j m : Nat) (S : SM) (o : Option Nat), j ≤ w → LF S0 S → OrgP (fun j => we j = we w ∧ pu j ≠ pu w ∧ Fo j) j w o →
    ∃ o' S', fX12_copied_L6 fu (m + j + 1) S (nI w) (oW o) (nI j + (-1)) = some (oW o', S') ∧ LF S0 S' ∧ OrgP (fun j => we j = we w ∧ pu j ≠ pu w ∧ Fo j) 0 w o' := by
  intro j
  induction j with
  | zero =>
    intro m S o hj hL hO
    refine ⟨o, S, ?_, hL, hO⟩
    show fX12_copied_L6b fu (fX12_copied_L6 fu m) S (nI w) (oW o) (nI 0 + (-1)) = _
    unfold fX12_copied_L6b
    rw [if_pos (by decide)]
  | succ j ih =>
    intro m S o hj hL hO
    have hjw : j < w := by omega
    obtain ⟨a1, a2, a3, a4, a5⟩ := h1 j (by omega)
    obtain ⟨b1, b2, b3, b4, b5⟩ := h1 w (Nat.le_refl w)
    have s26 : ∀ z, ar S 26 z = ar S0 26 z := fun z => by rw [hL.2.1 26 (by omega) (by omega) (by omega)]
    have s27 : ∀ z, ar S 27 z = ar S0 27 z := fun z => by rw [hL.2.1 27 (by omega) (by omega) (by omega)]
    have s4 : ∀ z, ar S 4 z = ar S0 4 z := fun z => by rw [hL.2.1 4 (by omega) (by omega) (by omega)]
    have i27 : ∀ z, z < 24 → inS 0 27 (nI z) = true := fun z hz => inS_ok (by decide) rfl hz (by decide)
    have i26 : ∀ z, z < 24 → inS 0 26 (nI z) = true := fun z hz => inS_ok (by decide) rfl hz (by decide)
    have i4 : ∀ z, z < 30 → inS 0 4 (nI z) = true := fun z hz => inS_ok (by decide) rfl hz (by decide)
    have no : ∀ S', LF S0 S' → ¬ (we j = we w ∧ pu j ≠ pu w ∧ Fo j) → ∃ o' S'', fX12_copied_L85 fu (fX12_copied_L6 fu (m + j + 1)) S' (nI w) (oW o) (nI j) = some (oW o', S'') ∧ LF S0 S'' ∧ OrgP (fun j => we j = we w ∧ pu j ≠ pu w ∧ Fo j) 0 w o' := by
      intro S' hL' hn
      exact ih m S' o (by omega) hL' (OrgP_dn hO hn)
    show ∃ o' S', fX12_copied_L6b fu (fX12_copied_L6 fu (m + j + 1)) S (nI w) (oW o) (nI (j + 1) + (-1)) = some (oW o', S') ∧ _
    unfold fX12_copied_L6b fX12_copied_L54
    rw [pk_m1, if_neg (nI_pos (by omega)), if_pos (i27 j (by omega)), if_pos (i27 w hw), nI_clamp (show j < 2 ^ 31 by omega), nI_clamp (show w < 2 ^ 31 by omega), s27, s27, a2, b2, s26, s26, a1, b1, nI_clamp (show wp j < 2 ^ 31 by omega), nI_clamp (show wp w < 2 ^ 31 by omega), s4, s4, a5, b5, if_pos (i26 j (by omega)), if_pos (i26 w hw), if_pos (i4 _ a3), if_pos (i4 _ b3)]
    have z0 : fX12_copied_L55 fu (fX12_copied_L6 fu (m + j + 1)) S (nI w) (oW o) (nI j) 0 = fX12_copied_L85 fu (fX12_copied_L6 fu (m + j + 1)) S (nI w) (oW o) (nI j) := if_pos rfl
    rw [z0]
    by_cases e1 : we j = we w
    · rw [if_pos (by rw [e1])]
      by_cases e2 : pu j = pu w
      · rw [if_pos e2]
        exact no S hL (fun q => q.2.1 e2)
      · rw [if_neg e2]
        unfold fX12_copied_L55
        obtain ⟨r, S2, c1, c2, c3⟩ := ho j S hjw hL
        rw [if_neg (by decide), if_pos (i26 j (by omega)), if_pos (i26 w hw), nI_clamp (show j < 2 ^ 31 by omega), nI_clamp (show w < 2 ^ 31 by omega), s26, s26, a1, b1, c1, bW_some]
        rcases c3 with ⟨rfl, c3⟩ | ⟨rfl, c3⟩
        · rw [if_neg (by decide)]
          exact ih m S2 (some j) (by omega) (hL.trans c2) ⟨Nat.le_refl j, hjw, ⟨e1, e2, c3⟩, fun u a b => by omega⟩
        · rw [if_pos rfl]
          exact no S2 (hL.trans c2) (fun q => c3 q.2.2)
    · rw [if_neg (fun q => e1 ((nI_eq (by omega) (by omega)).mp q))]
      exact no S hL (fun q => e1 q.1)
theorem r_copied {fu w : Nat} {wp we : Nat → Nat} {pu : Nat → Int32} {Fo : Nat → Prop} {S : SM} (hfu : 100 ≤ fu) (hw : w < 24) (h1 : ∀ j, j ≤ w → ar S 26 j = nI (wp j) ∧ ar S 27 j = nI (we j) ∧ wp j < 30 ∧ we j < 6 ∧ ar S 4 (wp j) = pu j) (ho : ∀ j S1, j < w → LF S S1 → ∃ r S2, fX12_oneForm fu S1 (nI (wp j)) (nI (wp w)) = some (r, S2) ∧ LF S1 S2 ∧ TF r (Fo j)) :
    ∃ o S', fX12_copied fu S (nI w) = some (oW o, S') ∧ LF S S' ∧ OrgP (fun j => we j = we w ∧ pu j ≠ pu w ∧ Fo j) 0 w o := by
  have k := r_cop6 (fu := fu) hw h1 ho w (fu - w - 1) S none (Nat.le_refl w) LF.rfl9 (fun v a b => by omega)
  rw [show fu - w - 1 + w + 1 = fu by omega] at k
  unfold fX12_copied
  rw [Int32.sub_eq_add_neg]
  exact k
theorem r_lay23 {fu W H nw : Nat} {wp a b c d : Nat → Nat} {wo : Nat → Option Nat} {wc : Nat → Int32} {Mt : Nat → Prop} {S0 : SM} (hfu : 5000 ≤ fu) (hnw : nw ≤ 24) (hW : W ≤ 40) (hW0 : 0 < W) (hH : H ≤ 40) (hl : ∀ i, i < nw → a i ≤ c i ∧ b i ≤ d i ∧ c i ≤ 16 ∧ d i ≤ 16) (h1 : sc S0 45 = nI W) (h2 : sc S0 46 = nI H) (h3 : sc S0 41 = nI nw) (hwo : ∀ i j, i < nw → wo i = some j → j < 24)
    (hp : ∀ i, i < nw → ar S0 26 i = nI (wp i) ∧ ar S0 28 i = wc i)
    (hm : ∀ i S1, i < nw → HF S0 S1 → ∃ r, fX12_doesMeet fu S1 (nI i) = some r ∧ TF r (Mt i))
    (hc : ∀ i S1, i < nw → HF S0 S1 → ∃ S2, fX12_copied fu S1 (nI i) = some (oW (wo i), S2) ∧ LF S1 S2)
    (hg : ∀ i S1, i < nw → HF S0 S1 → fX12_greatestOf fu S1 (nI (wp i)) 1 = some (nI (c i)) ∧ fX12_leastOf fu S1 (nI (wp i)) 1 = some (nI (a i)) ∧ fX12_greatestOf fu S1 (nI (wp i)) 0 = some (nI (d i)) ∧ fX12_leastOf fu S1 (nI (wp i)) 0 = some (nI (b i))) : ∀ (t i m : Nat) (S : SM), i + t = nw → HF S0 S → (∀ r, r < 40 → al S 29 r = (layB W H (fun i => c i - a i + 1) (fun i => d i - b i + 1) (fun i => Mt i ∧ ¬ (wo i ≠ none ∧ wc i = 0)) i).1 r) → (∀ j, j < i → ar S 30 j = plc W ((layB W H (fun i => c i - a i + 1) (fun i => d i - b i + 1) (fun i => Mt i ∧ ¬ (wo i ≠ none ∧ wc i = 0)) i).2 j)) →
    ∃ S', fX12_hangsAll_L23 fu (m + t + 1) S (nI i) = some S' ∧ HF S0 S' ∧ ∀ j, j < nw → ar S' 30 j = plc W ((layB W H (fun i => c i - a i + 1) (fun i => d i - b i + 1) (fun i => Mt i ∧ ¬ (wo i ≠ none ∧ wc i = 0)) nw).2 j) := by
  intro t
  induction t with
  | zero =>
    intro i m S hi h0 ha hb
    have hi : i = nw := hi
    subst hi
    refine ⟨S, ?_, h0, hb⟩
    show fX12_hangsAll_L23b fu (fX12_hangsAll_L23 fu m) S (nI i) = _
    unfold fX12_hangsAll_L23b
    rw [h0.1, h3, if_pos (Int32.le_refl _)]
  | succ t ih =>
    intro i m S hi h0 ha hb
    have hin : i < nw := by omega
    have hi24 : i < 24 := by omega
    obtain ⟨p1, p2⟩ := hp i hin
    have f1 : HF S0 (ua S 30 i (-1)) := h0.trans HF.ua
    have z1 : ar (ua S 30 i (-1)) 30 i = -1 := by rw [ar_ua, if_pos ⟨rfl, rfl⟩]
    have z2 : ∀ j, j ≠ i → ar (ua S 30 i (-1)) 30 j = ar S 30 j := fun j hj => by rw [ar_ua, if_neg (fun q => hj q.2)]
    have z3 : al (ua S 30 i (-1)) = al S := rfl
    show ∃ S', fX12_hangsAll_L23b fu (fX12_hangsAll_L23 fu (m + t + 1)) S (nI i) = some S' ∧ _
    unfold fX12_hangsAll_L23b
    rw [h0.1, h3, if_neg (fun q => by have := (nI_leI (by omega) (by omega)).mp q; omega), if_pos (inS_ok (by decide) rfl (by show i < 24; omega) (by decide)), nI_clamp (by omega), if_pos (inS_ok (by decide) rfl (by show i < 24; omega) (by decide))]
    generalize ua S 30 i (-1) = S1 at f1 z1 z2 z3 ⊢
    have skip : ∀ S2, HF S1 S2 → ar S2 30 = ar S1 30 → al S2 = al S1 → ¬ (Mt i ∧ ¬ (wo i ≠ none ∧ wc i = 0)) → ∃ S', fX12_hangsAll_L69 fu (fX12_hangsAll_L23 fu (m + t + 1)) S2 (nI i) = some S' ∧ HF S0 S' ∧ ∀ j, j < nw → ar S' 30 j = plc W ((layB W H (fun i => c i - a i + 1) (fun i => d i - b i + 1) (fun i => Mt i ∧ ¬ (wo i ≠ none ∧ wc i = 0)) nw).2 j) := by
      intro S2 g1 g2 g3 hno
      unfold fX12_hangsAll_L69
      rw [nI_1]
      refine ih (i + 1) m S2 (by omega) (f1.trans g1) (fun r hr => ?_) (fun j hj => ?_)
      · rw [layB_n hno, g3, z3]
        exact ha r hr
      · rw [layB_n hno, g2]
        by_cases e : j = i
        · rw [e, layB_none i i (Nat.le_refl i), z1]
          rfl
        · rw [z2 j e]
          exact hb j (by omega)
    have hang : ∀ S2, HF S1 S2 → ar S2 30 = ar S1 30 → al S2 = al S1 → (Mt i ∧ ¬ (wo i ≠ none ∧ wc i = 0)) → ∃ S', fX12_hangsAll_L64 fu (fX12_hangsAll_L23 fu (m + t + 1)) S2 (nI i) = some S' ∧ HF S0 S' ∧ ∀ j, j < nw → ar S' 30 j = plc W ((layB W H (fun i => c i - a i + 1) (fun i => d i - b i + 1) (fun i => Mt i ∧ ¬ (wo i ≠ none ∧ wc i = 0)) nw).2 j) := by
      intro S2 g1 g2 g3 hyes
      have f2 := f1.trans g1
      obtain ⟨q1, q2, q3, q4⟩ := hg i S2 hin f2
      obtain ⟨o, S3, k1, k2, k3, k4, k5, k6⟩ := r_hangsOne (fu := fu) (S := S2) (rows := (layB W H (fun i => c i - a i + 1) (fun i => d i - b i + 1) (fun i => Mt i ∧ ¬ (wo i ≠ none ∧ wc i = 0)) i).1) hfu hW0 hW hH hi24 (hl i hin) (by rw [f2.1]; exact h1) (by rw [f2.1]; exact h2) (by rw [f2.2 26 (by omega) (by omega) (by omega) (by omega)]; exact p1) (by rw [g2]; exact z1) (fun r hr => by rw [g3, z3]; exact ha r hr) q1 q2 q3 q4
      have eo : o = hangF W H (c i - a i + 1) (d i - b i + 1) (layB W H (fun i => c i - a i + 1) (fun i => d i - b i + 1) (fun i => Mt i ∧ ¬ (wo i ≠ none ∧ wc i = 0)) i).1 := FF_un k2 (ffn_ok _)
      unfold fX12_hangsAll_L64 fX12_hangsAll_L69
      rw [k1, bi_some, nI_1]
      refine ih (i + 1) m S3 (by omega) (f2.trans ⟨k3, fun r _ _ _ h => funext fun j => k4 r j (Or.inl h)⟩) (fun r hr => ?_) (fun j hj => ?_)
      · rw [k6 r hr, layB_y hyes, eo]
      · rw [layB_y hyes]
        show ar S3 30 j = plc W (if j = i then _ else _)
        by_cases e : j = i
        · rw [if_pos e, e, k5, eo]
        · rw [if_neg e, k4 30 j (Or.inr e), g2, z2 j e]
          exact hb j (by omega)
    obtain ⟨r, w1, w2⟩ := hm i S1 hin f1
    rw [w1, bi_some]
    rcases w2 with ⟨rfl, w2⟩ | ⟨rfl, w2⟩
    · have e28 : ar S1 28 i = wc i := by rw [f1.2 28 (by omega) (by omega) (by omega) (by omega)]; exact p2
      rw [if_neg (by decide), e28]
      by_cases e0 : wc i = 0
      · rw [if_pos e0]
        obtain ⟨S2, c1, c2⟩ := hc i S1 hin f1
        have c3 : ar S2 30 = ar S1 30 := c2.2.1 30 (by omega) (by omega) (by omega)
        rw [c1, bW_some]
        cases eo : wo i with
        | none =>
          rw [if_pos (show oW none = -1 from rfl)]
          exact hang S2 c2.hf c3 c2.2.2 ⟨w2, fun q => q.1 eo⟩
        | some j =>
          have hj := hwo i j hin eo
          rw [if_neg (show ¬ oW (some j) = -1 from nI_nm1 (by omega))]
          exact skip S2 c2.hf c3 c2.2.2 (fun q => q.2 ⟨fun z => (by rw [z] at eo; exact nomatch eo), e0⟩)
      · rw [if_neg e0]
        exact hang S1 HF.rfl9 rfl rfl ⟨w2, fun q => e0 q.2⟩
    · rw [if_pos rfl]
      exact skip S1 HF.rfl9 rfl rfl (fun q => w2 q.1)
theorem r_hangsAll {fu W H nw : Nat} {wp a b c d : Nat → Nat} {wo : Nat → Option Nat} {wc : Nat → Int32} {Mt : Nat → Prop} {S : SM} (hfu : 5000 ≤ fu) (hnw : nw ≤ 24) (hW : W ≤ 40) (hW0 : 0 < W) (hH : H ≤ 40) (hl : ∀ i, i < nw → a i ≤ c i ∧ b i ≤ d i ∧ c i ≤ 16 ∧ d i ≤ 16) (h1 : sc S 45 = nI W) (h2 : sc S 46 = nI H) (h3 : sc S 41 = nI nw) (hwo : ∀ i j, i < nw → wo i = some j → j < 24)
    (hp : ∀ i, i < nw → ar S 26 i = nI (wp i) ∧ ar S 28 i = wc i)
    (hm : ∀ i S1, i < nw → HF S S1 → ∃ r, fX12_doesMeet fu S1 (nI i) = some r ∧ TF r (Mt i))
    (hc : ∀ i S1, i < nw → HF S S1 → ∃ S2, fX12_copied fu S1 (nI i) = some (oW (wo i), S2) ∧ LF S1 S2)
    (hg : ∀ i S1, i < nw → HF S S1 → fX12_greatestOf fu S1 (nI (wp i)) 1 = some (nI (c i)) ∧ fX12_leastOf fu S1 (nI (wp i)) 1 = some (nI (a i)) ∧ fX12_greatestOf fu S1 (nI (wp i)) 0 = some (nI (d i)) ∧ fX12_leastOf fu S1 (nI (wp i)) 0 = some (nI (b i))) :
    ∃ S', fX12_hangsAll fu S = some S' ∧ HF S S' ∧ ∀ j, j < nw → ar S' 30 j = plc W ((layB W H (fun i => c i - a i + 1) (fun i => d i - b i + 1) (fun i => Mt i ∧ ¬ (wo i ≠ none ∧ wc i = 0)) nw).2 j) := by
  have key : ∀ (t i m : Nat) (S1 : SM), i + t = 40 → HF S S1 → (∀ r, r < i → al S1 29 r = 0) → ∃ S', fX12_hangsAll_L2 fu (m + t + 1) S1 (nI i) = some S' ∧ HF S S' ∧ ∀ j, j < nw → ar S' 30 j = plc W ((layB W H (fun i => c i - a i + 1) (fun i => d i - b i + 1) (fun i => Mt i ∧ ¬ (wo i ≠ none ∧ wc i = 0)) nw).2 j) := by
    intro t
    induction t with
    | zero =>
      intro i m S1 hi g1 g2
      have hi : i = 40 := hi
      subst hi
      show ∃ S', fX12_hangsAll_L2b fu (fX12_hangsAll_L2 fu m) S1 (nI 40) = some S' ∧ _
      unfold fX12_hangsAll_L2b
      rw [if_pos (by decide)]
      have k := r_lay23 (fu := fu) (Mt := Mt) hfu hnw hW hW0 hH hl h1 h2 h3 hwo hp hm hc hg nw 0 (fu - nw - 1) S1 (by omega) g1 (fun r hr => by rw [g2 r hr]; rfl) (fun j hj => absurd hj (Nat.not_lt_zero j))
      rw [show fu - nw - 1 + nw + 1 = fu by omega] at k
      exact k
    | succ t ih =>
      intro i m S1 hi g1 g2
      show ∃ S', fX12_hangsAll_L2b fu (fX12_hangsAll_L2 fu (m + t + 1)) S1 (nI i) = some S' ∧ _
      unfold fX12_hangsAll_L2b
      rw [if_neg (show ¬ (40 : Int32) ≤ nI i from fun q => by have := (nI_leI (by omega : 40 < 2 ^ 31) (by omega)).mp q; omega), if_pos (inS_ok (by decide) rfl (by show i < 40; omega) (by decide)), nI_clamp (by omega), nI_1]
      refine ih (i + 1) m (ul S1 29 i 0) (by omega) (g1.trans HF.ul) (fun r hr => ?_)
      rw [al_ul]
      by_cases e : r = i
      · rw [if_pos ⟨rfl, e⟩]
      · rw [if_neg (fun q => e q.2)]
        exact g2 r (by omega)
  have k := key 40 0 (fu - 41) S rfl HF.rfl9 (fun r hr => absurd hr (Nat.not_lt_zero r))
  rw [show fu - 41 + 40 + 1 = fu by omega] at k
  exact k
