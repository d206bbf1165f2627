/-! THE DRAFT's CALLS -/
def addS (S : SM) (n : Nat) (k t v nn : Int32) : SM := uc (ua (ua (ua (ua S 0 n k) 1 n t) 2 n v) 3 n nn) 1 (nI (n + 1))
theorem s_drafts {S : SM} {n : Nat} {k t v nn : Int32} (h : sc S 1 = nI n) (hn : n < 30) (hnn : nn = 0 ∨ nn = 1) : fX12_drafts S k t v nn = some (nI (n + 1), addS S n k t v nn) := by
  have i0 : ∀ r9, (r9 = 0 ∨ r9 = 1 ∨ r9 = 2) → inS 0 r9 (nI n) = true := by
    rintro r9 (z | z | z) <;> subst z <;> exact inS_ok (by decide) rfl (by show n < 30; omega) (by decide)
  have i3 : inS 1 3 (nI n) = true := inS_ok (by decide) rfl (by show n < 30; omega) (by decide)
  unfold fX12_drafts addS
  simp only [sc_ua, h, nI_clamp (show n < 2 ^ 31 by omega), i0 0 (Or.inl rfl), i0 1 (Or.inr (Or.inl rfl)), i0 2 (Or.inr (Or.inr rfl)), i3, if_true, if_pos hnn, sc_uc, nI_1]
theorem addS_ar {S : SM} {n r : Nat} {k t v nn : Int32} (h : 4 ≤ r) : ar (addS S n k t v nn) r = ar S r := funext fun j => by
  unfold addS
  rw [ar_uc, ar_ua, if_neg (by omega), ar_ua, if_neg (by omega), ar_ua, if_neg (by omega), ar_ua, if_neg (by omega)]
theorem addS_sc {S : SM} {n i : Nat} {k t v nn : Int32} (h : i ≠ 1) : sc (addS S n k t v nn) i = sc S i := by
  unfold addS
  rw [sc_uc, if_neg h]
  rfl
theorem DrfS.add {K T V N : Nat → Int32} {n : Nat} {k t v nn : Int32} {S : SM} (h2 : sc S 2 = nI (opn (br K n).length k)) (h3 : ∀ w, w < 4 → TF (bit1 (sc S 3) (nI w)) (WdP K T n w ∨ (k = 6 ∧ t = nI w))) (h4 : ∀ i, i < n → ar S 0 i = K i ∧ ar S 1 i = T i ∧ ar S 2 i = V i ∧ ar S 3 i = N i) : DrfS (upN K n k) (upN T n t) (upN V n v) (upN N n nn) (n + 1) (addS S n k t v nn) := by
  refine ⟨rfl, by rw [addS_sc (by omega), br_opn]; exact h2, fun w hw => by rw [addS_sc (by omega)]; exact (h3 w hw).cg WdP_up.symm, fun i hi => ?_⟩
  unfold addS
  by_cases e : i = n
  · subst e
    rw [upN_s, upN_s, upN_s, upN_s]
    refine ⟨?_, ?_, ?_, ?_⟩
    · rw [ar_uc, ar_ua, if_neg (by omega), ar_ua, if_neg (by omega), ar_ua, if_neg (by omega), ar_ua, if_pos ⟨rfl, rfl⟩]
    · rw [ar_uc, ar_ua, if_neg (by omega), ar_ua, if_neg (by omega), ar_ua, if_pos ⟨rfl, rfl⟩]
    · rw [ar_uc, ar_ua, if_neg (by omega), ar_ua, if_pos ⟨rfl, rfl⟩]
    · rw [ar_uc, ar_ua, if_pos ⟨rfl, rfl⟩]
  · obtain ⟨c1, c2, c3, c4⟩ := h4 i (by omega)
    rw [upN_o e, upN_o e, upN_o e, upN_o e]
    refine ⟨?_, ?_, ?_, ?_⟩
    · rw [ar_uc, ar_ua, if_neg (by omega), ar_ua, if_neg (by omega), ar_ua, if_neg (by omega), ar_ua, if_neg (fun z => e z.2)]; exact c1
    · rw [ar_uc, ar_ua, if_neg (by omega), ar_ua, if_neg (by omega), ar_ua, if_neg (fun z => e z.2), ar_ua, if_neg (by omega)]; exact c2
    · rw [ar_uc, ar_ua, if_neg (by omega), ar_ua, if_neg (fun z => e z.2), ar_ua, if_neg (by omega), ar_ua, if_neg (by omega)]; exact c3
    · rw [ar_uc, ar_ua, if_neg (fun z => e z.2), ar_ua, if_neg (by omega), ar_ua, if_neg (by omega), ar_ua, if_neg (by omega)]; exact c4
theorem PrsS.cg {np : Nat} {G : Nat → Pg} {S S' : SM} (h : PrsS np G S) (h8 : sc S' 8 = sc S 8) (hr : ∀ r, 4 ≤ r → r < 15 → ar S' r = ar S r) : PrsS np G S' := by
  unfold PrsS PD PDr
  rw [h8, hr 4 (by omega) (by omega), hr 5 (by omega) (by omega), hr 6 (by omega) (by omega), hr 7 (by omega) (by omega), hr 8 (by omega) (by omega), hr 9 (by omega) (by omega), hr 10 (by omega) (by omega), hr 11 (by omega) (by omega), hr 12 (by omega) (by omega), hr 13 (by omega) (by omega), hr 14 (by omega) (by omega)]
  exact h
theorem ExsS.cg {ne : Nat} {ew : Nat → Nat} {eo es : Nat → Int32} {S S' : SM} (h : ExsS ne ew eo es S) (h8 : sc S' 37 = sc S 37) (hr : ∀ r, 23 ≤ r → r < 26 → ar S' r = ar S r) : ExsS ne ew eo es S' := by
  unfold ExsS
  rw [h8, hr 23 (by omega) (by omega), hr 24 (by omega) (by omega), hr 25 (by omega) (by omega)]
  exact h
theorem WksS.cg {nw : Nat} {wp we : Nat → Nat} {wc : Nat → Int32} {S S' : SM} (h : WksS nw wp we wc S) (h8 : sc S' 41 = sc S 41) (hr : ∀ r, 26 ≤ r → r < 29 → ar S' r = ar S r) : WksS nw wp we wc S' := by
  unfold WksS
  rw [h8, hr 26 (by omega) (by omega), hr 27 (by omega) (by omega), hr 28 (by omega) (by omega)]
  exact h
theorem WalS.cg {W H : Nat} {S S' : SM} (h : WalS W H S) (h1 : sc S' 45 = sc S 45) (h2 : sc S' 46 = sc S 46) : WalS W H S' := by
  unfold WalS
  rw [h1, h2]
  exact h
section ADR
variable {A ro pa ea wa : Nat → Nat} {K T V N : Nat → Int32} {n np : Nat} {G : Nat → Pg} {ne : Nat} {ew : Nat → Nat} {eo es : Nat → Int32} {nw : Nat} {wp we : Nat → Nat} {wc : Nat → Int32} {wo : Nat → Option Nat} {W H : Nat} {X : Mem} {S S1 : SM}
theorem add_rel {k t v nn : Int32} (hF : FreshM X) (hX : RelX A ro pa ea wa K T V N n np G ne ew eo es nw wp we wc wo W H X) (hS : RelS K T V N n np G ne ew eo es nw wp we wc W H S) (hP : RelP K T V N n np G ne ew nw wp we wc wo W H) (a : AddP K T n k t v nn) (s1 : ∀ i, 4 ≤ i → sc S1 i = sc S i) (s2 : ar S1 = ar S) (h2 : sc S1 2 = nI (opn (br K n).length k)) (h3 : ∀ w, w < 4 → TF (bit1 (sc S1 3) (nI w)) (WdP K T n w ∨ (k = 6 ∧ t = nI w))) :
    ∃ X', fX11_addOrder X (A 0) k t v nn = some (.inr (nI (n + 1), X')) ∧ Rel (A 0) X' (addS S1 n k t v nn) ∧ Keeps9 X X' ∧ mK X' (A 0) = some (11, 0) ∧ mR X' 1100 (A 0) = some (A 1) ∧ mK X' (A 1) = some (1, 0) ∧ mI X' 103 (A 1) = nI (opn (br K n).length k) := by
  obtain ⟨B, D, P, E, Wk, Wl, Hg⟩ := hX
  obtain ⟨sD, sP, sE, sW, sL, s18⟩ := hS
  obtain ⟨pD, pP, pE, pW, pL⟩ := hP
  obtain ⟨X', z1, fm, rk, D'⟩ := x_add B D hF a
  have hP : ∀ (L : List Nat), 1 ∉ L → 9 ∉ L → 10 ∉ L → ∀ a, ro a ∈ L → ¬ (a = A 1 ∨ a = A 9 ∨ a = A 10) := by
    rintro L h1 h2 h3 a ha (z | z | z)
    · rw [z, B.o 1 1 0 (by decide)] at ha; exact h1 ha
    · rw [z, B.o 9 23 30 (by decide)] at ha; exact h2 ha
    · rw [z, B.o 10 21 4 (by decide)] at ha; exact h3 ha
  have hro : ∀ a, a < mZ X → (fun a => if a < mZ X then ro a else 50) a = ro a := fun a ha => if_pos ha
  have B1 : BaseX A (fun a => if a < mZ X then ro a else 50) X' := B.fm hF fm rk hro (B.2.2.fm hF (B.k 4 0 0 (by decide)) fm hro (hP [4] (by decide) (by decide) (by decide) _ (by rw [B.o 4 0 0 (by decide)]; decide)))
  refine ⟨X', z1, ?_, ⟨fm.1, fm.2.1⟩, B1.k 0 11 0 (by decide), B1.r 1100 0 1 (by decide), B1.k 1 1 0 (by decide), ?_⟩
  · refine ⟨A, fun a => if a < mZ X then ro a else 50, pa, ea, wa, upN K n k, upN T n t, upN V n v, upN N n nn, n + 1, np, G, ne, ew, eo, es, nw, wp, we, wc, wo, W, H, rfl, ⟨B1, D', P.fm B hF fm hro (hP _ (by decide) (by decide) (by decide)), E.fm B hF fm hro (hP _ (by decide) (by decide) (by decide)), Wk.fm B hF fm hro (hP _ (by decide) (by decide) (by decide)), Wl.fm B hF fm (hP _ (by decide) (by decide) (by decide)), Hg.fm Wk hF fm (hP _ (by decide) (by decide) (by decide))⟩, ⟨DrfS.add h2 h3 (by rw [s2]; exact sD.2.2.2), sP.cg ?_ (fun r h4 _ => ?_), sE.cg ?_ (fun r h4 _ => ?_), sW.cg ?_ (fun r h4 _ => ?_), sL.cg ?_ ?_, ?_⟩, ⟨pD.add a, pP, pE, pW, pL⟩⟩
    · rw [addS_sc (by omega), s1 8 (by omega)]
    · rw [addS_ar (by omega), s2]
    · rw [addS_sc (by omega), s1 37 (by omega)]
    · rw [addS_ar (by omega), s2]
    · rw [addS_sc (by omega), s1 41 (by omega)]
    · rw [addS_ar (by omega), s2]
    · rw [addS_sc (by omega), s1 45 (by omega)]
    · rw [addS_sc (by omega), s1 46 (by omega)]
    · rw [addS_ar (by omega), s2]; exact s18
  · obtain ⟨oa, d1, d2, d3, d4⟩ := D'
    rw [d3, br_opn]
end ADR
/-! values -/
def NmP (v : Int32) : Prop := ∃ j, j < 4 ∧ v = nI j
theorem NmP.r {v : Int32} (h : NmP v) : 0 ≤ v ∧ v ≤ 3 := by
  obtain ⟨j, hj, rfl⟩ := h
  exact ⟨nI_pos' (by omega), (nI_leI (by omega) (by omega : 3 < 2 ^ 31)).mpr (by omega)⟩
theorem x_name {X : Mem} (v : Int32) : (NmP v ∧ fX11_checkName X v = some (.inr ())) ∨ (¬ NmP v ∧ fX11_checkName X v = some (.inl "java/lang/IndexOutOfBoundsException")) := by
  unfold fX11_checkName
  rcases pk_ix v (show 4 < 2 ^ 31 by omega) with h | h | ⟨j, hj, rfl⟩
  · rw [if_pos h]
    exact Or.inr ⟨fun ⟨j, hj, e⟩ => nI_pos (n := j) (by omega) (by rw [e] at h; exact h), rfl⟩
  · refine Or.inr ⟨fun ⟨j, hj, e⟩ => by rw [e] at h; have := (nI_leI (by omega) (by omega)).mp h; omega, ?_⟩
    by_cases h0 : v < 0
    · rw [if_pos h0]
    · rw [if_neg h0, if_neg (show ¬ v < (4 : Int32) from fun z => Int32.lt_irrefl (Int32.lt_of_lt_of_le z h))]
  · rw [if_neg (nI_pos (by omega)), if_pos (show nI j < (4 : Int32) from (nI_ltI (by omega) (by omega : 4 < 2 ^ 31)).mpr hj)]
    exact Or.inl ⟨⟨j, hj, rfl⟩, rfl⟩
theorem x_wname {X : Mem} (v : Int32) : (NmP v ∧ fX11_checkWord X v = some (.inr ())) ∨ (¬ NmP v ∧ fX11_checkWord X v = some (.inl "java/lang/IndexOutOfBoundsException")) := x_name (X := X) v
theorem s_name {S : SM} {v : Int32} : ∃ r, fX12_isName S v = some r ∧ TF r (NmP v) := by
  unfold fX12_isName
  exact s_in01 (N := 4) (by omega)
def VaP (v nm least : Int32) : Prop := (nm = 0 ∧ least ≤ v ∧ v ≤ 99) ∨ (nm = 1 ∧ NmP v)
theorem x_value {X : Mem} {v nm least : Int32} (h : nm = 0 ∨ nm = 1) : (VaP v nm least ∧ fX11_checkValue X v nm least = some (.inr ())) ∨ ((nm = 1 ∧ ¬ NmP v) ∧ fX11_checkValue X v nm least = some (.inl "java/lang/IndexOutOfBoundsException")) ∨ ((nm = 0 ∧ ¬ (least ≤ v ∧ v ≤ 99)) ∧ fX11_checkValue X v nm least = some (.inl "java/lang/IllegalArgumentException")) := by
  unfold fX11_checkValue
  rcases h with e | e
  · rw [if_pos e]
    by_cases h1 : v < least
    · rw [if_pos h1]
      exact Or.inr (Or.inr ⟨⟨e, fun z => Int32.not_lt.mpr z.1 h1⟩, rfl⟩)
    · rw [if_neg h1]
      by_cases h2 : v ≤ 99
      · rw [if_pos h2]
        exact Or.inl ⟨Or.inl ⟨e, Int32.not_lt.mp h1, h2⟩, rfl⟩
      · rw [if_neg h2]
        exact Or.inr (Or.inr ⟨⟨e, fun z => h2 z.2⟩, rfl⟩)
  · rw [if_neg (by rw [e]; decide)]
    rcases x_name (X := X) v with ⟨h1, h2⟩ | ⟨h1, h2⟩
    · rw [h2, bE_r]
      exact Or.inl ⟨Or.inr ⟨e, h1⟩, rfl⟩
    · rw [h2, bE_l]
      exact Or.inr (Or.inl ⟨⟨e, h1⟩, rfl⟩)
theorem s_value68 {S : SM} {w : Int32} : fX12_isValue_L68 S w = some (if w = 0 then 1 else 0, uc S 0 w) := by
  unfold fX12_isValue_L68
  by_cases e : w = 0
  · rw [e, s_hold0, bW_some, if_pos (Or.inr rfl), if_pos rfl]
  · rw [s_holdN e, bW_some, if_pos (Or.inl rfl), if_neg e]
theorem s_value {S : SM} {n : Nat} {t v nm least : Int32} (hn : n ≤ 30) (hs : sc S 1 = nI n) (h : nm = 0 ∨ nm = 1) : (¬ NmP t → fX12_isValue S t v nm least = some (0, uc S 0 1)) ∧ (NmP t → nm = 1 → ¬ NmP v → fX12_isValue S t v nm least = some (0, uc S 0 1)) ∧ (NmP t → nm = 0 → ¬ (least ≤ v ∧ v ≤ 99) → fX12_isValue S t v nm least = some (0, uc S 0 2)) ∧ (NmP t → VaP v nm least → n = 30 → fX12_isValue S t v nm least = some (0, uc S 0 3)) ∧ (NmP t → VaP v nm least → n < 30 → fX12_isValue S t v nm least = some (1, uc S 0 0)) := by
  obtain ⟨r, e1, e2⟩ := s_name (S := S) (v := t)
  obtain ⟨r', f1, f2⟩ := s_name (S := S) (v := v)
  have v68 : fX12_isValue_L68 S 1 = some (0, uc S 0 1) := by rw [s_value68, if_neg n10]
  have l22 : fX12_isValue_L22 S v nm least = some (0, uc S 0 1) := by
    unfold fX12_isValue_L22 fX12_isValue_L23
    rw [if_pos rfl, v68]
  have l54a : n = 30 → fX12_isValue_L54 S = some (0, uc S 0 3) := by
    intro e
    unfold fX12_isValue_L54
    rw [hs, e, if_pos (show nI 30 = 30 from rfl), s_value68, if_neg (by decide)]
  have l54b : n < 30 → fX12_isValue_L54 S = some (1, uc S 0 0) := by
    intro e
    unfold fX12_isValue_L54
    rw [hs, if_neg (fun z => by have := (nI_eq (by omega) (by omega : 30 < 2 ^ 31)).mp z; omega), s_value68, if_pos rfl]
  have top : NmP t → (nm = 0 ∨ NmP v) → fX12_isValue S t v nm least = fX12_isValue_L23 S v nm least 1 := by
    intro ht hv
    have er : r = 1 := TF_un e2 (Or.inl ⟨rfl, ht⟩)
    unfold fX12_isValue fX12_isValue_L18
    rw [e1, bi_some, er, if_neg n10, f1, bi_some]
    by_cases e : nm = 0
    · rw [if_pos e]
    · have er' : r' = 1 := TF_un f2 (Or.inl ⟨rfl, hv.resolve_left e⟩)
      rw [if_neg e, er', if_neg n10]
  refine ⟨fun ht => ?_, fun ht h1 hv => ?_, fun ht h0 hv => ?_, fun ht hv e => ?_, fun ht hv e => ?_⟩
  · have er : r = 0 := TF_un e2 (Or.inr ⟨rfl, ht⟩)
    unfold fX12_isValue
    rw [e1, bi_some, er, if_pos rfl, l22]
  · have er : r = 1 := TF_un e2 (Or.inl ⟨rfl, ht⟩)
    have er' : r' = 0 := TF_un f2 (Or.inr ⟨rfl, hv⟩)
    unfold fX12_isValue
    rw [e1, bi_some, er, if_neg n10, f1, bi_some, er', if_neg (by rw [h1]; decide), if_pos rfl, l22]
  · rw [top ht (Or.inl h0)]
    unfold fX12_isValue_L23
    rw [if_neg n10, if_pos h0, q_isIn, bi_some, if_neg hv, if_pos rfl, s_value68, if_neg (by decide)]
  · rw [top ht (hv.imp (fun z => z.1) (fun z => z.2))]
    unfold fX12_isValue_L23
    rw [if_neg n10]
    rcases hv with ⟨h0, h1⟩ | ⟨h0, h1⟩
    · rw [if_pos h0, q_isIn, bi_some, if_pos h1, if_neg n10, l54a e]
    · rw [if_neg (by rw [h0]; decide), l54a e]
  · rw [top ht (hv.imp (fun z => z.1) (fun z => z.2))]
    unfold fX12_isValue_L23
    rw [if_neg n10]
    rcases hv with ⟨h0, h1⟩ | ⟨h0, h1⟩
    · rw [if_pos h0, q_isIn, bi_some, if_pos h1, if_neg n10, l54b e]
    · rw [if_neg (by rw [h0]; decide), l54b e]
theorem VaP.a {v nm least : Int32} (h : VaP v nm least) (hl : -99 ≤ least) : (nm = 0 ∧ -99 ≤ v ∧ v ≤ 99) ∨ (nm = 1 ∧ 0 ≤ v ∧ v ≤ 3) := h.imp (fun z => ⟨z.1, Int32.le_trans hl z.2.1, z.2.2⟩) (fun z => ⟨z.1, z.2.r⟩)
theorem Nm0 : NmP 0 := ⟨0, by decide, rfl⟩
theorem nn01 {n : Nat} (hn : n ≤ 30) : n = 30 ∨ n < 30 := by omega
theorem tc_forward {fu : Nat} : sem_forward Rel fu := by
  intro x X S q0 q1 hq hR hF
  have hR0 := hR
  obtain ⟨A, ro, pa, ea, wa, K, T, V, N, n, np, G, ne, ew, eo, es, nw, wp, we, wc, wo, W, H, rfl, hX, hS, hP⟩ := hR
  have hn := hP.1.1
  have hs := hS.1.1
  have hx := hX.1.k 0 11 0 (by decide)
  obtain ⟨v1, v2, v3, v4, v5⟩ := s_value (S := S) (t := 0) (v := q0) (least := 0) hn hs hq
  unfold fX11_forward fX12_forward
  rcases x_value (X := X) (v := q0) (least := 0) hq with ⟨hv, hc⟩ | ⟨⟨hv, hv'⟩, hc⟩ | ⟨⟨hv, hv'⟩, hc⟩
  · rw [hc, bE_r, if_pos hx]
    rcases nn01 hn with e | e
    · rw [x_full hX.1 hX.2.1 e, bEW_l, v4 Nm0 hv e, bW_some, if_pos rfl]
      exact ⟨_, _, _, rfl, rfl, sem_ex (i := 2) (by decide) (by decide) rfl (hR0.sk SK.t)⟩
    · have s2 : sc (uc S 0 0) 2 = nI (br K n).length := hS.1.2.1
      obtain ⟨X', z1, z2, z3, -⟩ := add_rel (S1 := uc S 0 0) (k := 0) (t := 0) (v := q0) (nn := q1) hF hX hS hP ⟨e, by decide, Nm0.r, hv.a (by decide), fun z => absurd z (by decide), fun z => absurd z (by decide)⟩ (fun i hi => by rw [sc_uc, if_neg (by omega)]) rfl s2 (fun w hw => (hS.1.2.2.1 w hw).cg ⟨Or.inl, fun z => z.elim id (fun y => absurd y.1 (by decide))⟩)
      rw [z1, bEW_r, v5 Nm0 hv e, bW_some, if_neg n10, s_drafts (S := uc S 0 0) (n := n) hs e hq, bW_some]
      exact ⟨_, _, _, rfl, rfl, rfl, rfl, z2, z3⟩
  · rw [hc, bE_l, v2 Nm0 hv hv', bW_some, if_pos rfl]
    exact ⟨_, _, _, rfl, rfl, sem_ex (i := 0) (by decide) (by decide) rfl (hR0.sk SK.t)⟩
  · rw [hc, bE_l, v3 Nm0 hv hv', bW_some, if_pos rfl]
    exact ⟨_, _, _, rfl, rfl, sem_ex (i := 1) (by decide) (by decide) rfl (hR0.sk SK.t)⟩
theorem tc_turn {fu : Nat} : sem_turn Rel fu := by
  intro x X S q0 q1 hq hR hF
  have hR0 := hR
  obtain ⟨A, ro, pa, ea, wa, K, T, V, N, n, np, G, ne, ew, eo, es, nw, wp, we, wc, wo, W, H, rfl, hX, hS, hP⟩ := hR
  have hn := hP.1.1
  have hs := hS.1.1
  have hx := hX.1.k 0 11 0 (by decide)
  obtain ⟨v1, v2, v3, v4, v5⟩ := s_value (S := S) (t := 0) (v := q0) (least := 0) hn hs hq
  unfold fX11_turn fX12_turn
  rcases x_value (X := X) (v := q0) (least := 0) hq with ⟨hv, hc⟩ | ⟨⟨hv, hv'⟩, hc⟩ | ⟨⟨hv, hv'⟩, hc⟩
  · rw [hc, bE_r, if_pos hx]
    rcases nn01 hn with e | e
    · rw [x_full hX.1 hX.2.1 e, bEW_l, v4 Nm0 hv e, bW_some, if_pos rfl]
      exact ⟨_, _, _, rfl, rfl, sem_ex (i := 2) (by decide) (by decide) rfl (hR0.sk SK.t)⟩
    · have s2 : sc (uc S 0 0) 2 = nI (br K n).length := hS.1.2.1
      obtain ⟨X', z1, z2, z3, -⟩ := add_rel (S1 := uc S 0 0) (k := 1) (t := 0) (v := q0) (nn := q1) hF hX hS hP ⟨e, by decide, Nm0.r, hv.a (by decide), fun z => absurd z (by decide), fun z => absurd z (by decide)⟩ (fun i hi => by rw [sc_uc, if_neg (by omega)]) rfl s2 (fun w hw => (hS.1.2.2.1 w hw).cg ⟨Or.inl, fun z => z.elim id (fun y => absurd y.1 (by decide))⟩)
      rw [z1, bEW_r, v5 Nm0 hv e, bW_some, if_neg n10, s_drafts (S := uc S 0 0) (n := n) hs e hq, bW_some]
      exact ⟨_, _, _, rfl, rfl, rfl, rfl, z2, z3⟩
  · rw [hc, bE_l, v2 Nm0 hv hv', bW_some, if_pos rfl]
    exact ⟨_, _, _, rfl, rfl, sem_ex (i := 0) (by decide) (by decide) rfl (hR0.sk SK.t)⟩
  · rw [hc, bE_l, v3 Nm0 hv hv', bW_some, if_pos rfl]
    exact ⟨_, _, _, rfl, rfl, sem_ex (i := 1) (by decide) (by decide) rfl (hR0.sk SK.t)⟩
theorem tc_set {fu : Nat} : sem_set Rel fu := by
  intro x X S q0 q1 q2 hq hR hF
  have hR0 := hR
  obtain ⟨A, ro, pa, ea, wa, K, T, V, N, n, np, G, ne, ew, eo, es, nw, wp, we, wc, wo, W, H, rfl, hX, hS, hP⟩ := hR
  have hn := hP.1.1
  have hs := hS.1.1
  have hx := hX.1.k 0 11 0 (by decide)
  obtain ⟨v1, v2, v3, v4, v5⟩ := s_value (S := S) (t := q0) (v := q1) (least := -99) hn hs hq
  unfold fX11_set fX12_set
  rcases x_name (X := X) q0 with ⟨ht, hc0⟩ | ⟨ht, hc0⟩
  · rw [hc0, bE_r]
    rcases x_value (X := X) (v := q1) (least := -99) hq with ⟨hv, hc⟩ | ⟨⟨hv, hv'⟩, hc⟩ | ⟨⟨hv, hv'⟩, hc⟩
    · rw [hc, bE_r, if_pos hx]
      rcases nn01 hn with e | e
      · rw [x_full hX.1 hX.2.1 e, bEW_l, v4 ht hv e, bW_some, if_pos rfl]
        exact ⟨_, _, _, rfl, rfl, sem_ex (i := 2) (by decide) (by decide) rfl (hR0.sk SK.t)⟩
      · have s2 : sc (uc S 0 0) 2 = nI (br K n).length := hS.1.2.1
        obtain ⟨X', z1, z2, z3, -⟩ := add_rel (S1 := uc S 0 0) (k := 3) (t := q0) (v := q1) (nn := q2) hF hX hS hP ⟨e, by decide, ht.r, hv.a (by decide), fun z => absurd z (by decide), fun z => absurd z (by decide)⟩ (fun i hi => by rw [sc_uc, if_neg (by omega)]) rfl s2 (fun w hw => (hS.1.2.2.1 w hw).cg ⟨Or.inl, fun z => z.elim id (fun y => absurd y.1 (by decide))⟩)
        rw [z1, bEW_r, v5 ht hv e, bW_some, if_neg n10, s_drafts (S := uc S 0 0) (n := n) hs e hq, bW_some]
        exact ⟨_, _, _, rfl, rfl, rfl, rfl, z2, z3⟩
    · rw [hc, bE_l, v2 ht hv hv', bW_some, if_pos rfl]
      exact ⟨_, _, _, rfl, rfl, sem_ex (i := 0) (by decide) (by decide) rfl (hR0.sk SK.t)⟩
    · rw [hc, bE_l, v3 ht hv hv', bW_some, if_pos rfl]
      exact ⟨_, _, _, rfl, rfl, sem_ex (i := 1) (by decide) (by decide) rfl (hR0.sk SK.t)⟩
  · rw [hc0, bE_l, v1 ht, bW_some, if_pos rfl]
    exact ⟨_, _, _, rfl, rfl, sem_ex (i := 0) (by decide) (by decide) rfl (hR0.sk SK.t)⟩
theorem tc_add {fu : Nat} : sem_add Rel fu := by
  intro x X S q0 q1 q2 hq hR hF
  have hR0 := hR
  obtain ⟨A, ro, pa, ea, wa, K, T, V, N, n, np, G, ne, ew, eo, es, nw, wp, we, wc, wo, W, H, rfl, hX, hS, hP⟩ := hR
  have hn := hP.1.1
  have hs := hS.1.1
  have hx := hX.1.k 0 11 0 (by decide)
  obtain ⟨v1, v2, v3, v4, v5⟩ := s_value (S := S) (t := q0) (v := q1) (least := -99) hn hs hq
  unfold fX11_add fX12_add
  rcases x_name (X := X) q0 with ⟨ht, hc0⟩ | ⟨ht, hc0⟩
  · rw [hc0, bE_r]
    rcases x_value (X := X) (v := q1) (least := -99) hq with ⟨hv, hc⟩ | ⟨⟨hv, hv'⟩, hc⟩ | ⟨⟨hv, hv'⟩, hc⟩
    · rw [hc, bE_r, if_pos hx]
      rcases nn01 hn with e | e
      · rw [x_full hX.1 hX.2.1 e, bEW_l, v4 ht hv e, bW_some, if_pos rfl]
        exact ⟨_, _, _, rfl, rfl, sem_ex (i := 2) (by decide) (by decide) rfl (hR0.sk SK.t)⟩
      · have s2 : sc (uc S 0 0) 2 = nI (br K n).length := hS.1.2.1
        obtain ⟨X', z1, z2, z3, -⟩ := add_rel (S1 := uc S 0 0) (k := 4) (t := q0) (v := q1) (nn := q2) hF hX hS hP ⟨e, by decide, ht.r, hv.a (by decide), fun z => absurd z (by decide), fun z => absurd z (by decide)⟩ (fun i hi => by rw [sc_uc, if_neg (by omega)]) rfl s2 (fun w hw => (hS.1.2.2.1 w hw).cg ⟨Or.inl, fun z => z.elim id (fun y => absurd y.1 (by decide))⟩)
        rw [z1, bEW_r, v5 ht hv e, bW_some, if_neg n10, s_drafts (S := uc S 0 0) (n := n) hs e hq, bW_some]
        exact ⟨_, _, _, rfl, rfl, rfl, rfl, z2, z3⟩
    · rw [hc, bE_l, v2 ht hv hv', bW_some, if_pos rfl]
      exact ⟨_, _, _, rfl, rfl, sem_ex (i := 0) (by decide) (by decide) rfl (hR0.sk SK.t)⟩
    · rw [hc, bE_l, v3 ht hv hv', bW_some, if_pos rfl]
      exact ⟨_, _, _, rfl, rfl, sem_ex (i := 1) (by decide) (by decide) rfl (hR0.sk SK.t)⟩
  · rw [hc0, bE_l, v1 ht, bW_some, if_pos rfl]
    exact ⟨_, _, _, rfl, rfl, sem_ex (i := 0) (by decide) (by decide) rfl (hR0.sk SK.t)⟩
theorem tc_repeat {fu : Nat} : sem_repeat Rel fu := by
  intro x X S q0 q1 hq hR hF
  have hR0 := hR
  obtain ⟨A, ro, pa, ea, wa, K, T, V, N, n, np, G, ne, ew, eo, es, nw, wp, we, wc, wo, W, H, rfl, hX, hS, hP⟩ := hR
  have hn := hP.1.1
  have hs := hS.1.1
  have hx := hX.1.k 0 11 0 (by decide)
  obtain ⟨v1, v2, v3, v4, v5⟩ := s_value (S := S) (t := 0) (v := q0) (least := 0) hn hs hq
  unfold fX11_repeat fX12_repeat
  rcases x_value (X := X) (v := q0) (least := 0) hq with ⟨hv, hc⟩ | ⟨⟨hv, hv'⟩, hc⟩ | ⟨⟨hv, hv'⟩, hc⟩
  · rw [hc, bE_r, if_pos hx]
    rcases nn01 hn with e | e
    · rw [x_full hX.1 hX.2.1 e, bEW_l, v4 Nm0 hv e, bW_some, if_pos rfl]
      exact ⟨_, _, _, rfl, rfl, sem_ex (i := 2) (by decide) (by decide) rfl (hR0.sk SK.t)⟩
    · have s2 : sc (uc S 0 0) 2 = nI (br K n).length := hS.1.2.1
      have s21 : sc (uc (uc S 0 0) 2 (sc (uc S 0 0) 2 + 1)) 2 = nI (opn (br K n).length 5) := by
        rw [sc_uc, if_pos rfl, s2, nI_1]
        rfl
      obtain ⟨X', z1, z2, z3, -⟩ := add_rel (S1 := uc (uc S 0 0) 2 (sc (uc S 0 0) 2 + 1)) (k := 5) (t := 0) (v := q0) (nn := q1) hF hX hS hP ⟨e, by decide, Nm0.r, hv.a (by decide), fun z => absurd z (by decide), fun z => absurd z (by decide)⟩ (fun i hi => by rw [sc_uc, if_neg (by omega), sc_uc, if_neg (by omega)]) rfl s21 (fun w hw => (hS.1.2.2.1 w hw).cg ⟨Or.inl, fun z => z.elim id (fun y => absurd y.1 (by decide))⟩)
      rw [z1, bEW_r, v5 Nm0 hv e, bW_some, if_neg n10, s_drafts (S := uc (uc S 0 0) 2 (sc (uc S 0 0) 2 + 1)) (n := n) hs e hq, bW_some]
      exact ⟨_, _, _, rfl, rfl, rfl, rfl, z2, z3⟩
  · rw [hc, bE_l, v2 Nm0 hv hv', bW_some, if_pos rfl]
    exact ⟨_, _, _, rfl, rfl, sem_ex (i := 0) (by decide) (by decide) rfl (hR0.sk SK.t)⟩
  · rw [hc, bE_l, v3 Nm0 hv hv', bW_some, if_pos rfl]
    exact ⟨_, _, _, rfl, rfl, sem_ex (i := 1) (by decide) (by decide) rfl (hR0.sk SK.t)⟩
