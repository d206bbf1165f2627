/-! the law's own wall, work by work -/
theorem layB_at {W H : Nat} {wd hg : Nat → Nat} {ok : Nat → Prop} {j : Nat} : ∀ n, j < n → (layB W H wd hg ok n).2 j = (layB W H wd hg ok (j + 1)).2 j := by
  intro n
  induction n with
  | zero => intro h; exact absurd h (Nat.not_lt_zero _)
  | succ n ih =>
    intro h
    by_cases e : j = n
    · rw [e]
    · rw [layB_old (by omega), ih (by omega)]
theorem layB_st {W H : Nat} {wd hg : Nat → Nat} {ok : Nat → Prop} {k : Nat} {o : Option Nat} (h : ok k → FF (FitK (layB W H wd hg ok k).1 W H (wd k) (hg k)) (W * H) o) (h' : ¬ ok k → o = none) : (layB W H wd hg ok (k + 1)).2 k = o ∧ (layB W H wd hg ok (k + 1)).1 = hangR W (wd k) (hg k) (layB W H wd hg ok k).1 o := by
  by_cases e : ok k
  · have eo : hangF W H (wd k) (hg k) (layB W H wd hg ok k).1 = o := FF_un (ffn_ok (P := FitK (layB W H wd hg ok k).1 W H (wd k) (hg k)) (W * H)) (h e)
    rw [layB_y e, eo]
    exact ⟨if_pos rfl, rfl⟩
  · rw [layB_n e, h' e]
    exact ⟨layB_none k k (Nat.le_refl _), rfl⟩
def LCv (C : Nat → Prop) (k : Nat) : Option Nat → Prop
  | none => ∀ j, j < k → ¬ C j
  | some v => v < k ∧ C v
def nxO (x8 : Int32) (k : Nat) : Option Nat → Int32
  | none => x8
  | some _ => nI k
section WLK
variable {fu x ac ap aw aq : Nat} {K T V N : Nat → Int32} {n np : Nat} {G : Nat → Pg} {ne : Nat} {ew : Nat → Nat} {eo es : Nat → Int32} {nw : Nat} {wp we : Nat → Nat} {wc : Nat → Int32} {wo : Nat → Option Nat} {W H : Nat} {P : LwP} {x4 x7 x8 x9 x10 : Int32} {k u : Nat} {rec36 : LwP → Nat → Nat → Nat → Nat → Int32 → Nat → Int32 → Int32 → Int32 → Int32 → Int32 → Int32 → Option (Int32 × LwP)}
theorem wl_350 {v s0 s1 : Int32} {o : Option Nat} (hfu : 5000 ≤ fu) (hS : StX x K T V N n np G ne ew eo es nw wp we wc wo W H P.1) (hR : RelP K T V N n np G ne ew nw wp we wc wo W H) (hO : LOK P ac ap aw) (h6 : aI P.2 ac 6 = nI W) (hk : k < nw) (hv : TF v (MtG G ew eo es wp we k)) (ho : layG W H G ew eo es wp we wc wo nw k = o) (hj : ∀ j, o = some j → j < 1600) : fL_isWall_L350 fu rec36 P x ac ap aw x4 aq x8 x9 x10 (nI k) v (oW (wo k)) (oW o) s0 s1 = rec36 P x ac ap aw x4 aq (s0 + s1) x8 x9 x10 1 (nI (k + 1)) := by
  obtain ⟨r, a1, a2⟩ := m_meets hfu hS hR hk
  have er : r = v := TF_un a2 hv
  have hW0 := hR.2.2.2.2.1
  have hW := hR.2.2.2.2.2.1
  have hw0 : ¬ nI W = 0 := nI_ne0 hW0 (by omega)
  unfold fL_isWall_L350
  rw [if_pos (m_k hS), a1, nT_r, if_pos er, m_copyOf hS hR hk, nT_r, if_pos rfl, m_hangs hS hR hk, nT_r, ho]
  have l416 : ∀ c : Int32, fL_isWall_L408 fu rec36 P x ac ap aw x4 aq (s0 + s1) x8 x9 x10 (nI k) c c = rec36 P x ac ap aw x4 aq (s0 + s1) x8 x9 x10 1 (nI (k + 1)) := by
    intro c
    unfold fL_isWall_L408 fL_isWall_L416
    rw [if_pos rfl, nI_1]
  cases o with
  | none =>
    rw [if_neg (show ¬ (0 : Int32) ≤ oW none by decide)]
    exact l416 (-1)
  | some j =>
    have hj := hj j rfl
    have ed : nI j / nI W = nI (j / W) := pk_div (by omega) hW0 (by omega)
    have em : nI j - nI j / nI W * nI W = nI (j % W) := pk_rem (by omega) hW0 (by omega)
    have e100 : (100 : Int32) * nI (j % W) + nI (j / W) = nI (100 * (j % W) + j / W) := by
      rw [show (100 : Int32) = nI 100 from rfl, pk_mul, nI_add]
    show (if (0 : Int32) ≤ nI j then _ else _) = _
    rw [if_pos (show (0 : Int32) ≤ nI j from (nI_leI (by omega : 0 < 2 ^ 31) (by omega)).mpr (Nat.zero_le _)), if_pos hO.c6, cl6, h6, if_neg hw0, if_pos hO.c6, if_neg hw0]
    show fL_isWall_L408 fu rec36 P x ac ap aw x4 aq (s0 + s1) x8 x9 x10 (nI k) (plc W (some j)) ((100 : Int32) * (nI j - nI j / nI W * nI W) + nI j / nI W) = _
    rw [em, ed, e100]
    exact l416 _
theorem wl_320 {v : Int32} {o : Option Nat} (hfu : 5000 ≤ fu) (hS : StX x K T V N n np G ne ew eo es nw wp we wc wo W H P.1) (hR : RelP K T V N n np G ne ew nw wp we wc wo W H) (hO : LOK P ac ap aw) (hI : LIn np ne nw W H (aI P.2 ac)) (hp : LIp np G (aI P.2 ap)) (hw : LIw ne ew eo es nw wp we wc (aI P.2 aw)) (hk : k < nw) (hv : TF v (MtG G ew eo es wp we k)) (ho : layG W H G ew eo es wp we wc wo nw k = o) (hj : ∀ j, o = some j → j < 1600) (hu : x4 - x4 / (3 : Int32) * (3 : Int32) = nI u) : fL_isWall_L320 fu rec36 P x ac ap aw x4 aq (nI (cnB (fun w => layG W H G ew eo es wp we wc wo nw w ≠ none ∧ pgu (G (wp w)) = nI u) k)) x9 x10 (nI k) v (oW (wo k)) (oW o) x8 = rec36 P x ac ap aw x4 aq (nI (cnB (fun w => layG W H G ew eo es wp we wc wo nw w ≠ none ∧ pgu (G (wp w)) = nI u) (k + 1))) x8 x9 x10 1 (nI (k + 1)) := by
  obtain ⟨i3, i4, i5, i6, i7, i8, i9, i10⟩ := hI
  obtain ⟨v1, v2, -⟩ := hR.2.2.2.1.2.1 k hk
  have e12 : (12 : Int32) + nI k = nI (12 + k) := wr_ix 12 k rfl
  obtain ⟨w1, w2⟩ := hw.2.1 k hk
  unfold fL_isWall_L320 fL_isWall_L349
  have y : ∀ s0 s1 : Int32, fL_isWall_L350 fu rec36 P x ac ap aw x4 aq x8 x9 x10 (nI k) v (oW (wo k)) (oW o) s0 s1 = rec36 P x ac ap aw x4 aq (s0 + s1) x8 x9 x10 1 (nI (k + 1)) := fun s0 s1 => wl_350 hfu hS hR hO i6 hk hv ho hj
  cases o with
  | none =>
    rw [if_pos (show oW none < 0 by decide), y, cnB_n (P := fun w => layG W H G ew eo es wp we wc wo nw w ≠ none ∧ pgu (G (wp w)) = nI u) (fun q => q.1 ho), l0, nI_add]
    rfl
  | some j =>
    have hj := hj j rfl
    have hnn : ¬ oW (some j) < 0 := fun q => by have := (nI_ltI (by omega) (by omega : 0 < 2 ^ 31)).mp (show nI j < nI 0 from q); omega
    rw [if_neg hnn, e12, if_pos (hO.w (12 + k) (by omega)), nI_clamp (by omega), w1, if_pos (hO.p (wp k) (by omega)), nI_clamp (by omega), (hp (wp k) v1).1, hu]
    by_cases c : pgu (G (wp k)) = nI u
    · rw [if_pos c, y, cnB_y (P := fun w => layG W H G ew eo es wp we wc wo nw w ≠ none ∧ pgu (G (wp w)) = nI u) ⟨fun z => (by rw [ho] at z; exact nomatch z), c⟩, nI_1]
    · rw [if_neg c, y, cnB_n (P := fun w => layG W H G ew eo es wp we wc wo nw w ≠ none ∧ pgu (G (wp w)) = nI u) (fun q => c q.2), l0, nI_add]
      rfl
theorem wl_242 {v : Int32} {cx cy : Nat} {o : Option Nat} (hcx : cx < 40) (hcy : cy < 40) (hW0 : 0 < W) (hW : W ≤ 40) (hO : LOK P ac ap aw) (h6 : aI P.2 ac 6 = nI W) (ho : layG W H G ew eo es wp we wc wo nw k = o) (hj : ∀ j, o = some j → j < 1600) (hwd : wdG G wp k < 18) (hhg : hgG G wp k < 18) {x14 : Int32} : ∃ o' : Option Nat, fL_isWall_L242 fu rec36 P x ac ap aw x4 aq x7 x8 (nI cx) (nI cy) (nI k) v x14 (oW o) (nI (wdG G wp k)) (nI (hgG G wp k)) = fL_isWall_L320 fu rec36 P x ac ap aw x4 aq x7 (nI cx) (nI cy) (nI k) v x14 (oW o) (nxO x8 k o') ∧ (o' ≠ none ↔ CovP W (wdG G wp) (hgG G wp) (layG W H G ew eo es wp we wc wo nw) cx cy k) := by
  have f0 : fL_isWall_L305 fu rec36 P x ac ap aw x4 aq x7 x8 (nI cx) (nI cy) (nI k) v x14 (oW o) = fL_isWall_L320 fu rec36 P x ac ap aw x4 aq x7 (nI cx) (nI cy) (nI k) v x14 (oW o) x8 := by
    unfold fL_isWall_L305 fL_isWall_L306
    rw [if_pos rfl]
  have f1 : fL_isWall_L306 fu rec36 P x ac ap aw x4 aq x7 x8 (nI cx) (nI cy) (nI k) v x14 (oW o) 1 = fL_isWall_L320 fu rec36 P x ac ap aw x4 aq x7 (nI cx) (nI cy) (nI k) v x14 (oW o) (nI k) := by
    unfold fL_isWall_L306
    rw [if_neg n1z]
  have no : ¬ CovP W (wdG G wp) (hgG G wp) (layG W H G ew eo es wp we wc wo nw) cx cy k → ∃ o' : Option Nat, fL_isWall_L305 fu rec36 P x ac ap aw x4 aq x7 x8 (nI cx) (nI cy) (nI k) v x14 (oW o) = fL_isWall_L320 fu rec36 P x ac ap aw x4 aq x7 (nI cx) (nI cy) (nI k) v x14 (oW o) (nxO x8 k o') ∧ (o' ≠ none ↔ CovP W (wdG G wp) (hgG G wp) (layG W H G ew eo es wp we wc wo nw) cx cy k) := fun hn => ⟨none, f0, ⟨fun q => absurd rfl q, fun q => absurd q hn⟩⟩
  unfold fL_isWall_L242
  cases o with
  | none =>
    rw [if_pos (show oW none < 0 by decide)]
    exact no (fun ⟨j, q, _⟩ => by rw [ho] at q; exact nomatch q)
  | some j =>
    have hj := hj j rfl
    have hnn : ¬ oW (some j) < 0 := fun q => by have := (nI_ltI (by omega) (by omega : 0 < 2 ^ 31)).mp (show nI j < nI 0 from q); omega
    have hw0 : ¬ nI W = 0 := nI_ne0 hW0 (by omega)
    have ed : oW (some j) / nI W = nI (j / W) := pk_div (by omega) hW0 (by omega)
    have em : oW (some j) - oW (some j) / nI W * nI W = nI (j % W) := pk_rem (by omega) hW0 (by omega)
    have hx : j % W < W := Nat.mod_lt _ hW0
    have hy : j / W ≤ j := Nat.div_le_self _ _
    have cov : CovP W (wdG G wp) (hgG G wp) (layG W H G ew eo es wp we wc wo nw) cx cy k ↔ InR W (wdG G wp k) (hgG G wp k) j cx cy := by
      constructor
      · rintro ⟨j', q1, q2⟩
        rw [ho] at q1
        rw [Option.some.inj q1]
        exact q2
      · exact fun q => ⟨j, ho, q⟩
    rw [cov] at no ⊢
    rw [if_neg hnn, if_pos hO.c6, cl6, h6, if_neg hw0, em, ed]
    by_cases c1 : nI cx < nI (j % W)
    · rw [if_pos c1]
      exact no (fun q => by have := (nI_ltI (by omega) (by omega)).mp c1; have := q.1; omega)
    · rw [if_neg c1, if_pos hO.c6, if_neg hw0, nI_add]
      by_cases c2 : nI (j % W + wdG G wp k) ≤ nI cx
      · rw [if_pos c2]
        exact no (fun q => by have := (nI_leI (by omega) (by omega)).mp c2; have := q.2.1; omega)
      · rw [if_neg c2, if_pos hO.c6, if_neg hw0]
        by_cases c3 : nI cy < nI (j / W)
        · rw [if_pos c3]
          exact no (fun q => by have := (nI_ltI (by omega) (by omega)).mp c3; have := q.2.2.1; omega)
        · rw [if_neg c3, if_pos hO.c6, if_neg hw0, nI_add]
          by_cases c4 : nI (j / W + hgG G wp k) ≤ nI cy
          · rw [if_pos c4]
            exact no (fun q => by have := (nI_leI (by omega) (by omega)).mp c4; have := q.2.2.2; omega)
          · rw [if_neg c4]
            refine ⟨some 0, f1, ⟨fun _ => ?_, fun _ z => nomatch z⟩⟩
            have d1 : ¬ cx < j % W := fun q => c1 ((nI_ltI (by omega) (by omega)).mpr q)
            have d2 : ¬ j % W + wdG G wp k ≤ cx := fun q => c2 ((nI_leI (by omega) (by omega)).mpr q)
            have d3 : ¬ cy < j / W := fun q => c3 ((nI_ltI (by omega) (by omega)).mpr q)
            have d4 : ¬ j / W + hgG G wp k ≤ cy := fun q => c4 ((nI_leI (by omega) (by omega)).mpr q)
            exact ⟨by omega, by omega, by omega, by omega⟩
end WLK
