/-! THE REFERENCE's RUN: its turns -/
def PD (p n : Nat) (K T V N : Nat → Int32) (S : SM) : Prop := ar S 5 p = nI n ∧ ∀ j, j < n → ar S 6 (30 * p + j) = K j ∧ ar S 7 (30 * p + j) = T j ∧ ar S 8 (30 * p + j) = V j ∧ ar S 9 (30 * p + j) = N j
/-- what a run leaves -/
def RF (p : Nat) (S S' : SM) : Prop := (∀ k, k < 21 ∨ 29 < k → sc S' k = sc S k) ∧ (∀ r, r < 13 ∨ 18 < r → ar S' r = ar S r) ∧ (∀ a, a < 16 * p ∨ 16 * p + 16 ≤ a → ar S' 13 a = ar S 13 a ∧ ar S' 14 a = ar S 14 a) ∧ al S' = al S
theorem RF.rfl9 {p : Nat} {S : SM} : RF p S S := ⟨fun _ _ => rfl, fun _ _ => rfl, fun _ _ => ⟨rfl, rfl⟩, rfl⟩
theorem RF.trans {p : Nat} {a b c : SM} (h : RF p a b) (k : RF p b c) : RF p a c := ⟨fun i hi => (k.1 i hi).trans (h.1 i hi), fun r hr => (k.2.1 r hr).trans (h.2.1 r hr), fun a ha => ⟨(k.2.2.1 a ha).1.trans (h.2.2.1 a ha).1, (k.2.2.1 a ha).2.trans (h.2.2.1 a ha).2⟩, k.2.2.2.trans h.2.2.2⟩
theorem GF.rf {p : Nat} {a b : SM} (h : GF p a b) : RF p a b := ⟨fun k hk => h.1 k (by omega), fun r hr => h.2.1 r (by omega) (by omega) (by omega) (by omega), h.2.2.1, h.2.2.2⟩
theorem RF.uc {p k : Nat} {S : SM} {v : Int32} (h : 21 ≤ k ∧ k ≤ 29) : RF p S (uc S k v) := ⟨fun i hi => if_neg (by omega), fun _ _ => rfl, fun _ _ => ⟨rfl, rfl⟩, rfl⟩
theorem RF.ua {p r i : Nat} {S : SM} {v : Int32} (h : 15 ≤ r ∧ r ≤ 18) : RF p S (ua S r i v) := ⟨fun i hi => rfl, fun r' a1 => funext fun j => if_neg (fun q => by omega), fun a ha => ⟨if_neg (fun q => by omega), if_neg (fun q => by omega)⟩, rfl⟩
theorem PD.rf {p n : Nat} {K T V N : Nat → Int32} {S S' : SM} (h : PD p n K T V N S) (k : RF p S S') : PD p n K T V N S' := by
  refine ⟨by rw [k.2.1 5 (by omega)]; exact h.1, fun j hj => ?_⟩
  rw [k.2.1 6 (by omega), k.2.1 7 (by omega), k.2.1 8 (by omega), k.2.1 9 (by omega)]
  exact h.2 j hj
def QSt (S : SM) : Stk → Prop
  | [] => True
  | (a, v) :: st => ar S 16 st.length = nI a ∧ ar S 17 st.length = v ∧ QSt S st
def QS (S : SM) (st : Stk) : Prop := sc S 28 = nI st.length ∧ sc S 29 = nI (calls st) ∧ QSt S st
theorem QSt.of {S S' : SM} : ∀ {st : Stk}, QSt S st → (∀ j, j < st.length → ar S' 16 j = ar S 16 j ∧ ar S' 17 j = ar S 17 j) → QSt S' st
  | [], _, _ => trivial
  | (a, v) :: st, h, k => ⟨((k _ (Nat.lt_succ_self _)).1).trans h.1, ((k _ (Nat.lt_succ_self _)).2).trans h.2.1, QSt.of h.2.2 (fun j hj => k j (Nat.lt_succ_of_lt hj))⟩
theorem QS.gf {p : Nat} {S S' : SM} {st : Stk} (h : QS S st) (k : GF p S S') : QS S' st := ⟨(k.1 28 (by omega)).trans h.1, (k.1 29 (by omega)).trans h.2.1, h.2.2.of (fun j _ => by rw [k.2.1 16 (by omega) (by omega) (by omega) (by omega), k.2.1 17 (by omega) (by omega) (by omega) (by omega)]; exact ⟨rfl, rfl⟩)⟩
theorem QC.uc {p k : Nat} {S : SM} {s : Cor} {v : Int32} (hk : k < 21 ∨ 26 < k) (h : QC p S s) : QC p (uc S k v) s := by
  obtain ⟨x, y, h9, d, f, c, nm, R, U, sa⟩ := s
  obtain ⟨q1, q2, q3, q4, q5, q6, q7, q8, q9, q10⟩ := h
  exact ⟨(if_neg (by omega)).trans q1, (if_neg (by omega)).trans q2, (if_neg (by omega)).trans q3, (if_neg (by omega)).trans q4, (if_neg (by omega)).trans q5, (if_neg (by omega)).trans q6, q7, q8, q9, q10⟩
theorem QC.ua {p r i : Nat} {S : SM} {s : Cor} {v : Int32} (hr : r = 16 ∨ r = 17) (h : QC p S s) : QC p (ua S r i v) s := by
  obtain ⟨x, y, h9, d, f, c, nm, R, U, sa⟩ := s
  obtain ⟨q1, q2, q3, q4, q5, q6, q7, q8, q9, q10⟩ := h
  exact ⟨q1, q2, q3, q4, q5, q6, fun j hj => (if_neg (by omega)).trans (q7 j hj), fun j hj => (if_neg (by omega)).trans (q8 j hj), fun j hj => (if_neg (by omega)).trans (q9 j hj), fun j hj => (if_neg (by omega)).trans (q10 j hj)⟩
theorem QC.f {p : Nat} {S : SM} {s : Cor} (h : QC p S s) : sc S 26 = cF s ∧ sc S 25 = nI (cC s) ∧ ∀ j, j < 4 → ar S 15 j = cNm s j := by
  obtain ⟨x, y, h9, d, f, c, nm, R, U, sa⟩ := s
  obtain ⟨q1, q2, q3, q4, q5, q6, q7, q8, q9, q10⟩ := h
  exact ⟨q5, q6, q7⟩
theorem q_fw {p fu v : Nat} (hp : p < 30) (hv : v < 2 ^ 31) : ∀ (t k m : Nat) (S : SM) (s : Cor), k + t = v → CI s → QC p S s → ∃ S', fX12_does_L59 fu (m + t + 1) S (nI p) (nI v) (nI k) = some S' ∧ QC p S' (fwB t s) ∧ GF p S S' := by
  intro t
  induction t with
  | zero =>
    intro k m S s hk hC hQ
    refine ⟨S, ?_, hQ, GF.rfl9⟩
    show fX12_does_L59b fu (fX12_does_L59 fu m) S (nI p) (nI v) (nI k) = _
    unfold fX12_does_L59b
    rw [if_pos ((nI_leI hv (by omega)).mpr (by omega))]
  | succ t ih =>
    intro k m S s hk hC hQ
    show ∃ S', fX12_does_L59b fu (fX12_does_L59 fu (m + t + 1)) S (nI p) (nI v) (nI k) = some S' ∧ QC p S' (if cF s = 0 then fwB t (goB s) else s) ∧ _
    unfold fX12_does_L59b
    rw [if_neg (fun q => by have := (nI_leI hv (by omega)).mp q; omega), hQ.f.1]
    by_cases e : cF s = 0
    · rw [if_pos e, if_pos e]
      obtain ⟨S1, m1, m2, m3⟩ := q_goes hp hC hQ
      rw [m1, bi_some, nI_1]
      obtain ⟨S2, w1, w2, w3⟩ := ih (k + 1) m S1 (goB s) (by omega) (goB_ok hC).1 m2
      exact ⟨S2, w1, w2, m3.trans w3⟩
    · rw [if_neg e, if_neg e]
      exact ⟨S, rfl, hQ, GF.rfl9⟩
theorem q_i30 {p j : Nat} : (30 : Int32) * nI p + nI j = nI (30 * p + j) := by
  rw [show (30 : Int32) = nI 30 from rfl, pk_mul, nI_add]
theorem in_900 {t r p j : Nat} (hr : r < 31) (hk : akind r = (20 + t, 900)) (hp : p < 30) (hj : j < 30) : inS t r (nI (30 * p + j)) = true := inS_ok hr (by rw [hk]) (by rw [hk]; show 30 * p + j < 900; omega) (by rw [hk]; show 900 < 2 ^ 31; decide)
theorem cl_900 {p j : Nat} (hp : p < 30) (hj : j < 30) : (nI (30 * p + j)).toNatClampNeg = 30 * p + j := nI_clamp (by omega)
/-- the end of a block, by the reference's count -/
theorem q_endOf {p n fu o c : Nat} {K T V N : Nat → Int32} {S : SM} (hp : p < 30) (hn : n ≤ 30) (hD : PD p n K T V N S) (ho : K o = 5 ∨ K o = 6) (hc : isCl K n o c) (hfu : 31 ≤ fu) : fX12_endOf fu S (nI p) (nI o) = some (nI c) := by
  have key : ∀ (t k m : Nat), k + t = c → o ≤ k → fX12_endOf_L5 fu S (m + t + 1) (nI p) (nI k) (nI ((br K (k + 1)).length - (br K o).length)) = some (nI c) := by
    intro t
    induction t with
    | zero =>
      intro k m hk hok
      have e : k = c := hk
      subst e
      show fX12_endOf_L5b fu S (fX12_endOf_L5 fu S m) (nI p) (nI k) _ = _
      unfold fX12_endOf_L5b
      rw [cl_br hc, Nat.sub_self, if_pos (by decide)]
    | succ t ih =>
      intro k m hk hok
      show fX12_endOf_L5b fu S (fX12_endOf_L5 fu S (m + t + 1)) (nI p) (nI k) _ = _
      unfold fX12_endOf_L5b
      obtain ⟨L, hL⟩ := hc.2.2.2.2 (k + 1) (by omega) (by omega)
      have hlen : (br K (k + 1)).length = L.length + 1 + (br K o).length := by rw [hL, List.length_append, List.length_cons]; omega
      have hk1 : k + 1 < n := by have := hc.2.1; omega
      have hb := br_len (K := K) (k + 1)
      rw [if_neg (nI_nle (by omega) (by omega)), nI_1, q_i30, if_pos (in_900 (by decide) rfl hp (by omega)), cl_900 hp (by omega), (hD.2 (k + 1) hk1).1]
      have nx := ih (k + 1) m (by omega) (by omega)
      by_cases h5 : K (k + 1) = 5
      · rw [if_pos h5]
        unfold fX12_endOf_L41 fX12_endOf_L57
        rw [br_op (Or.inl h5), List.length_cons] at nx
        rw [nI_1, ← nx]
        congr 2
        omega
      · rw [if_neg h5]
        by_cases h6 : K (k + 1) = 6
        · rw [if_pos h6]
          unfold fX12_endOf_L41 fX12_endOf_L57
          rw [br_op (Or.inr h6), List.length_cons] at nx
          rw [nI_1, ← nx]
          congr 2
          omega
        · rw [if_neg h6]
          by_cases h8 : K (k + 1) = 8
          · rw [if_pos h8]
            unfold fX12_endOf_L57
            rw [br_end h8, List.length_tail] at nx
            rw [show nI ((br K (k + 1)).length - (br K o).length) + (-1) = nI ((br K (k + 1)).length - 1 - (br K o).length) by
              rw [show (br K (k + 1)).length - (br K o).length = ((br K (k + 1)).length - 1 - (br K o).length) + 1 by omega, pk_m1]]
            exact nx
          · rw [if_neg h8]
            unfold fX12_endOf_L57
            rw [br_no h5 h6 h8] at nx
            rw [Int32.add_zero]
            exact nx
  have hco := hc.1
  have hcn := hc.2.1
  unfold fX12_endOf
  have k := key (c - o) o (fu - (c - o) - 1) (by omega) (Nat.le_refl _)
  rw [show fu - (c - o) - 1 + (c - o) + 1 = fu by omega, br_op ho, List.length_cons, show (br K o).length + 1 - (br K o).length = 1 by omega] at k
  exact k
theorem q_enters {d : Nat} {S : SM} {a v : Int32} (hd : sc S 28 = nI d) (h : d < 300) : fX12_enters S a v = some (uc (ua (ua S 16 d a) 17 d v) 28 (nI (d + 1))) := by
  unfold fX12_enters
  rw [hd, if_pos (inS_ok (by decide) rfl h (by decide)), nI_clamp (by omega), sc_ua, hd, if_pos (inS_ok (by decide) rfl h (by decide)), nI_clamp (by omega), sc_ua, sc_ua, hd, nI_1]
theorem QS.push {S S1 : SM} {st : Stk} {a : Nat} {v : Int32} (h : QS S st) (h28 : sc S1 28 = nI (st.length + 1)) (h29 : sc S1 29 = nI (calls ((a, v) :: st))) (h16 : ∀ j, ar S1 16 j = if j = st.length then nI a else ar S 16 j) (h17 : ∀ j, ar S1 17 j = if j = st.length then v else ar S 17 j) : QS S1 ((a, v) :: st) :=
  ⟨h28, h29, (h16 _).trans (if_pos rfl), (h17 _).trans (if_pos rfl), h.2.2.of (fun j hj => ⟨(h16 j).trans (if_neg (by omega)), (h17 j).trans (if_neg (by omega))⟩)⟩
/-- an end -/
theorem q_ends {p a i : Nat} {v : Int32} {S : SM} {s : Cor} {st : Stk} (hQ : QC p S s) (hS : QS S ((a, v) :: st)) (hv : v = -1 ∨ 0 < v) (hl : st.length < 300) (hat : sc S 27 = nI i) :
    ∃ S', fX12_ends S = some S' ∧ QC p S' s ∧ RF p S S' ∧ QS S' (endB i ((a, v) :: st)).2 ∧ sc S' 27 + 1 = nI (endB i ((a, v) :: st)).1 := by
  obtain ⟨h28a, h29, h16, h17, hst⟩ := hS
  have h28 : sc S 28 = nI (st.length + 1) := h28a
  clear h28a
  have hin : inS 0 17 (nI st.length) = true := inS_ok (by decide) rfl hl (by decide)
  have hin16 : inS 0 16 (nI st.length) = true := inS_ok (by decide) rfl hl (by decide)
  have hcl : (nI st.length).toNatClampNeg = st.length := nI_clamp (by omega)
  unfold fX12_ends
  rw [h28, nI_pred, if_pos hin, if_pos hin, hcl, h17]
  by_cases e1 : v = -1
  · rw [if_pos e1]
    have ee : endB i ((a, v) :: st) = (a + 1, st) := if_pos e1
    have hc : calls ((a, v) :: st) = calls st + 1 := by
      show (if v = -1 then 1 else 0) + calls st = _
      rw [if_pos e1, Nat.add_comm]
    rw [hc] at h29
    subst e1
    unfold fX12_ends_L32
    simp only [sc_ua, h28, nI_pred, hin, hin16, hcl, ar_ua, if_true, and_self, sc_uc, ar_uc, if_pos, show ((-1 : Int32) - 0 ≤ 0) = True from by decide, show ((-1 : Int32) - 0 = -1) = True from by decide]
    unfold fX12_ends_L99
    simp only [sc_ua, h28, nI_pred, hin, hin16, hcl, ar_ua, if_true, and_self, sc_uc, ar_uc, show ((-1 : Int32) - 0 = -1) = True from by decide, show (28 : Nat) = 29 ↔ False from by decide, show (29 : Nat) = 28 ↔ False from by decide, show (16 : Nat) = 17 ↔ False from by decide, if_false, false_and, h16, h29]
    unfold fX12_ends_L133
    refine ⟨_, rfl, ?_, ?_, ?_, ?_⟩
    · exact QC.uc (by omega) (QC.uc (by omega) (QC.uc (by omega) (QC.ua (Or.inr rfl) hQ)))
    · exact (((RF.ua (by omega)).trans (RF.uc (by omega))).trans (RF.uc (by omega))).trans (RF.uc (by omega))
    · rw [ee]
      refine ⟨rfl, rfl, hst.of fun j hj => ⟨rfl, if_neg (fun q => by have := q.2; omega)⟩⟩
    · rw [ee]
      exact nI_1 a
  · rw [if_neg e1]
    have hv0 : 0 < v := hv.resolve_left e1
    have hc : calls ((a, v) :: st) = calls st := by
      show (if v = -1 then 1 else 0) + calls st = _
      rw [if_neg e1, Nat.zero_add]
    rw [hc] at h29
    unfold fX12_ends_L32
    simp only [sc_ua, h28, nI_pred, hin, hin16, hcl, ar_ua, if_true, and_self, sc_uc, ar_uc, show (16 : Nat) = 17 ↔ False from by decide, false_and, if_false, h16]
    by_cases e2 : v - 1 ≤ 0
    · have ee : endB i ((a, v) :: st) = (i + 1, st) := (if_neg e1).trans (if_pos e2)
      have e3 : ¬ v - 1 = -1 := by
        intro q
        have h0 : v = 0 := by
          have := congrArg (· + 1) q
          simp only [Int32.sub_add_cancel] at this
          rw [this]
          decide
        rw [h0] at hv0
        exact absurd hv0 (by decide)
      rw [if_pos e2, if_neg e3]
      unfold fX12_ends_L99
      simp only [sc_ua, h28, nI_pred, hin, hin16, hcl, ar_ua, if_true, and_self, sc_uc, ar_uc, show (28 : Nat) = 29 ↔ False from by decide, show (27 : Nat) = 29 ↔ False from by decide, show (29 : Nat) = 28 ↔ False from by decide, show (27 : Nat) = 28 ↔ False from by decide, if_false, h29, e3, hat]
      unfold fX12_ends_L133
      refine ⟨_, rfl, ?_, ?_, ?_, ?_⟩
      · exact QC.uc (by omega) (QC.uc (by omega) (QC.uc (by omega) (QC.ua (Or.inr rfl) hQ)))
      · exact (((RF.ua (by omega)).trans (RF.uc (by omega))).trans (RF.uc (by omega))).trans (RF.uc (by omega))
      · rw [ee]
        refine ⟨rfl, Int32.sub_zero _, hst.of fun j hj => ⟨rfl, if_neg (fun q => by have := q.2; omega)⟩⟩
      · rw [ee]
        exact nI_1 i
    · have ee : endB i ((a, v) :: st) = (a + 1, (a, v - 1) :: st) := (if_neg e1).trans (if_neg e2)
      rw [if_neg e2]
      have e3 : ¬ v - 1 = -1 := fun q => e2 (by rw [q]; decide)
      have hc1 : calls ((a, v - 1) :: st) = calls st := by
        show (if v - 1 = -1 then 1 else 0) + calls st = _
        rw [if_neg e3, Nat.zero_add]
      refine ⟨_, rfl, ?_, ?_, ?_, ?_⟩
      · exact QC.uc (by omega) (QC.ua (Or.inr rfl) hQ)
      · exact (RF.ua (by omega)).trans (RF.uc (by omega))
      · rw [ee]
        refine ⟨h28, h29.trans (by rw [hc1]), h16, if_pos ⟨rfl, rfl⟩, hst.of fun j hj => ⟨rfl, if_neg (fun q => by have := q.2; omega)⟩⟩
      · rw [ee]
        exact nI_1 a
