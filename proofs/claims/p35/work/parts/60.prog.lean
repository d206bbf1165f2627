/-! THE CLASS's PROGRAM: partners and words -/
/-- only the int array pa changed -/
def AFr (pa : Nat) (X X1 : Mem) : Prop := mK X1 = mK X ∧ mI X1 = mI X ∧ mR X1 = mR X ∧ aR X1 = aR X ∧ aJ X1 = aJ X ∧ mZ X1 = mZ X ∧ ∀ a, a ≠ pa → aI X1 a = aI X a
theorem AFr.rfl9 {pa : Nat} {X : Mem} : AFr pa X X := ⟨rfl, rfl, rfl, rfl, rfl, rfl, fun _ _ => rfl⟩
theorem AFr.trans {pa : Nat} {X X1 X2 : Mem} (h : AFr pa X X1) (k : AFr pa X1 X2) : AFr pa X X2 := ⟨k.1.trans h.1, k.2.1.trans h.2.1, k.2.2.1.trans h.2.2.1, k.2.2.2.1.trans h.2.2.2.1, k.2.2.2.2.1.trans h.2.2.2.2.1, k.2.2.2.2.2.1.trans h.2.2.2.2.2.1, fun a ha => (k.2.2.2.2.2.2 a ha).trans (h.2.2.2.2.2.2 a ha)⟩
theorem AFr.sI {pa i : Nat} {X : Mem} {v : Int32} : AFr pa X (sI X pa i v) := ⟨rfl, rfl, rfl, rfl, rfl, rfl, fun _ ha => funext fun _ => if_neg (fun q => ha q.1)⟩
/-- a program's orders, partners: what lies where -/
def PG (pr os pa : Nat) (oa : Nat → Nat) (K T V N : Nat → Int32) (n : Nat) (X : Mem) : Prop := mK X pr = some (5, 0) ∧ mR X 501 pr = some os ∧ mR X 502 pr = some pa ∧ mK X os = some (23, n) ∧ mK X pa = some (20, n) ∧ ∀ i, i < n → aR X os i = some (oa i) ∧ mK X (oa i) = some (4, 0) ∧ mI X 400 (oa i) = K i ∧ mI X 401 (oa i) = T i ∧ mI X 402 (oa i) = V i ∧ mI X 403 (oa i) = N i
theorem PG.fr {pr os pa b n : Nat} {oa : Nat → Nat} {K T V N : Nat → Int32} {X X1 : Mem} (h : PG pr os pa oa K T V N n X) (k : AFr b X X1) : PG pr os pa oa K T V N n X1 := by
  unfold PG
  rw [k.1, k.2.1, k.2.2.1, k.2.2.2.1]
  exact h
section PRG
variable {pr os pa n : Nat} {oa : Nat → Nat} {K T V N : Nat → Int32} {X : Mem}
theorem d_orderAt {j : Nat} (h : PG pr os pa oa K T V N n X) (hn : n ≤ 30) (hj : j < n) : fX5_orderAt X pr (nI j) = some (some (oa j)) := by
  unfold fX5_orderAt
  rw [if_neg (nI_pos (by omega)), if_pos h.1, h.2.1, bi_some, alen_of h.2.2.2.1 (by decide), bi_some, if_neg (fun q => by have := (nI_leI (by omega) (by omega)).mp q; omega), bi_some, if_pos (inb_of (t := 3) h.2.2.2.1 hj (by omega)), nI_clamp (by omega), (h.2.2.2.2.2 j hj).1]
theorem d_partner {j : Nat} (h : PG pr os pa oa K T V N n X) (hn : n ≤ 30) (hj : j < n) : fX5_partnerOf X pr (nI j) = some (aI X pa j) := by
  unfold fX5_partnerOf
  rw [if_neg (nI_pos (by omega)), if_pos h.1, h.2.2.1, bi_some, alen_of h.2.2.2.2.1 (by decide), bi_some, if_neg (fun q => by have := (nI_leI (by omega) (by omega)).mp q; omega), bi_some, if_pos (inb_of (t := 0) h.2.2.2.2.1 hj (by omega)), nI_clamp (by omega)]
theorem d_opens {j : Nat} (h : PG pr os pa oa K T V N n X) (hj : j < n) : fX4_opensBlock X (oa j) = some (if K j = 5 ∨ K j = 6 then 1 else 0) := by
  obtain ⟨o1, o2, o3, o4, o5, o6⟩ := h.2.2.2.2.2 j hj
  unfold fX4_opensBlock
  rw [if_pos o2, o3]
  by_cases e5 : K j = 5
  · rw [if_pos e5, if_pos (Or.inl e5)]
  · rw [if_neg e5]
    by_cases e6 : K j = 6
    · rw [if_pos e6, if_pos (Or.inr e6)]
    · rw [if_neg e6, if_neg (fun q => q.elim e5 e6)]
/-- the partners of the blocks that are closed ahead of i -/
def PB (pa : Nat) (K : Nat → Int32) (cl : Nat → Nat) (i : Nat) (X : Mem) : Prop := ∀ o, o < i → (K o = 5 ∨ K o = 6) → (o ∈ br K i → aI X pa o = -1) ∧ (o ∉ br K i → aI X pa o = nI (cl o) ∧ aI X pa (cl o) = nI o ∧ cl o < i)
theorem nI_nm1 {j : Nat} (h : j < 2 ^ 31) : nI j ≠ -1 := fun q => by
  have := nI_pos' h
  rw [q] at this
  exact absurd this (by decide)
theorem d_last {fu i o : Nat} {M : List Nat} {cl : Nat → Nat} (h : PG pr os pa oa K T V N n X) (hn : n ≤ 30) (hi : i ≤ n) (hB : PB pa K cl i X) (hcl : ∀ o, cl o < 2 ^ 31) (hb : br K i = o :: M) (hfu : 40 ≤ fu) : fX5_lastOpenAhead fu X pr (nI i) = some (nI o) := by
  have ho := br_lt i o (by rw [hb]; exact List.mem_cons_self)
  have hM : M = br K o := br_suf i [] o M hb
  have key : ∀ (t j m : Nat), o + t = j → j < i → fX5_lastOpenAhead_L4 fu X (m + t + 1) pr (nI j) = some (nI o) := by
    intro t
    induction t with
    | zero =>
      intro j m hj hji
      have hj : o = j := hj
      subst hj
      show fX5_lastOpenAhead_L4b fu X (fX5_lastOpenAhead_L4 fu X m) pr (nI o) = _
      unfold fX5_lastOpenAhead_L4b
      rw [if_neg (nI_pos (by omega)), if_pos h.1, d_orderAt h hn (by omega), bi_some, if_neg (by exact fun q => nomatch q), bi_some, if_pos (h.2.2.2.2.2 o (by omega)).2.1, d_opens h (by omega), bi_some, if_pos ho.2, if_neg (by decide), d_partner h hn (by omega), bi_some, if_pos ((hB o ho.1 ho.2).1 (by rw [hb]; exact List.mem_cons_self))]
    | succ t ih =>
      intro j m hj hji
      show fX5_lastOpenAhead_L4b fu X (fX5_lastOpenAhead_L4 fu X (m + t + 1)) pr (nI j) = _
      unfold fX5_lastOpenAhead_L4b fX5_lastOpenAhead_L36
      obtain ⟨j', rfl⟩ : ∃ j', j = j' + 1 := ⟨j - 1, by omega⟩
      have nx := ih j' m (by omega) (by omega)
      rw [if_neg (nI_pos (by omega)), if_pos h.1, d_orderAt h hn (by omega), bi_some, if_neg (by exact fun q => nomatch q), bi_some, if_pos (h.2.2.2.2.2 (j' + 1) (by omega)).2.1, d_opens h (by omega), bi_some, pk_m1]
      by_cases e : K (j' + 1) = 5 ∨ K (j' + 1) = 6
      · rw [if_pos e, if_neg (by decide), d_partner h hn (by omega), bi_some]
        have hnot : j' + 1 ∉ br K i := by
          rw [hb]
          intro q
          rcases List.mem_cons.mp q with q | q
          · omega
          · rw [hM] at q
            have := (br_lt o _ q).1
            omega
        rw [((hB (j' + 1) hji e).2 hnot).1, if_neg (nI_nm1 (hcl _))]
        exact nx
      · rw [if_neg e, if_pos rfl]
        exact nx
  unfold fX5_lastOpenAhead
  have hio := ho.1
  have k := key (i - 1 - o) (i - 1) (fu - (i - 1 - o) - 1) (by omega) (by omega)
  rw [show fu - (i - 1 - o) - 1 + (i - 1 - o) + 1 = fu by omega] at k
  rw [show nI i - 1 = nI (i - 1) by rw [show i = (i - 1) + 1 by omega, nI_pred]; congr 1]
  exact k
end PRG
