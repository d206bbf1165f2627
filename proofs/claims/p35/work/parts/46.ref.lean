/-! an order that is counted; a turn of the loop -/
theorem q_ix {p n i r : Nat} {K T V N : Nat → Int32} {S : SM} (hp : p < 30) (hn : n ≤ 30) (hi : i < n) : inS 0 6 (nI (30 * p + i)) = true ∧ inS 0 7 (nI (30 * p + i)) = true ∧ inS 0 8 (nI (30 * p + i)) = true ∧ inS 1 9 (nI (30 * p + i)) = true :=
  ⟨in_900 (by decide) rfl hp (by omega), in_900 (by decide) rfl hp (by omega), in_900 (by decide) rfl hp (by omega), in_900 (by decide) rfl hp (by omega)⟩
theorem t_lt4 {t : Int32} (h1 : 0 ≤ t) (h2 : t ≤ 3) : ∃ j, j < 4 ∧ t = nI j := by
  obtain ⟨j, hj, e⟩ := nI_of2 (M := 3) (n := 3) rfl (fun q => Int32.lt_irrefl (Int32.lt_of_lt_of_le q h1)) h2
  exact ⟨j, by omega, e⟩
theorem q_setnm {p j : Nat} {S : SM} {s : Cor} {v : Int32} (hQ : QC p S s) (hf : cF s = 0) (hj : j < 4) (x2 : Int32) (i7 : inS 0 7 x2 = true) (et : ar S 7 x2.toNatClampNeg = nI j) (fu : Nat) :
    ∃ S', fX12_does_L169 fu S x2 v = some S' ∧ QC p S' (putB (nI j) v s) ∧ GF p S S' := by
  have i15 : inS 0 15 (nI j) = true := inS_ok (by decide) rfl hj (by decide)
  obtain ⟨x, y, h9, d, f, c, nm, R, U, sa⟩ := s
  obtain ⟨q1, q2, q3, q4, q5, q6, q7, q8, q9, q10⟩ := hQ
  have hf : f = 0 := hf
  unfold fX12_does_L169
  rw [q_isIn, bi_some]
  show ∃ S', _ ∧ QC p S' (if -999 ≤ v ∧ v ≤ 999 then _ else _) ∧ _
  by_cases e : -999 ≤ v ∧ v ≤ 999
  · rw [if_pos e, if_neg (by decide), if_pos e]
    unfold fX12_does_L191
    rw [if_pos i7, sc_uc, if_pos rfl, if_pos rfl, ar_uc, et]
    unfold fX12_does_L227
    rw [if_pos i15, nI_clamp (by omega)]
    refine ⟨_, rfl, ⟨q1, q2, q3, q4, hf.symm, q6, fun k hk => ?_, q8, q9, q10⟩, (GF.uc (by omega)).trans (GF.ua (by omega))⟩
    show (if 15 = 15 ∧ k = j then v else ar S 15 k) = (if k = j then v else nm k)
    by_cases e1 : k = j
    · rw [if_pos ⟨rfl, e1⟩, if_pos e1]
    · rw [if_neg (fun q => e1 q.2), if_neg e1, q7 k hk]
  · rw [if_neg e, if_pos rfl, if_neg e]
    unfold fX12_does_L191
    rw [if_pos i7, sc_uc, if_pos rfl, if_neg (by decide), if_pos i7, ar_uc, et, if_pos i15]
    unfold fX12_does_L227
    rw [if_pos i15, nI_clamp (by omega), ar_uc]
    refine ⟨_, rfl, ⟨q1, q2, q3, q4, rfl, q6, fun k hk => ?_, q8, q9, q10⟩, (GF.uc (by omega)).trans (GF.ua (by omega))⟩
    show (if 15 = 15 ∧ k = j then ar S 15 j else ar S 15 k) = nm k
    by_cases e1 : k = j
    · rw [if_pos ⟨rfl, e1⟩, ← e1, q7 k hk]
    · rw [if_neg (fun q => e1 q.2), q7 k hk]
/-- the order that is not counted in another way: its state, and the place of the stack -/
def AT (S : SM) (i : Nat) (st : Stk) (s : Cor) : Prop := cF s = 0 → QS S st ∧ sc S 27 + 1 = nI i
theorem cF_trn {v : Int32} {s : Cor} : cF (trnB v s) = cF s := by obtain ⟨x, y, h9, d, f, c, nm, R, U, sa⟩ := s; rfl
theorem q_does0 {p n fu i : Nat} {K T V N : Nat → Int32} {S : SM} {s : Cor} (hp : p < 30) (hP : VP K T V N n) (hD : PD p n K T V N S) (hi : i < n) (hQ : QC p S s) : fX12_does fu S (nI p) (nI (30 * p + i)) = fX12_does_L29 fu S (nI p) (nI (30 * p + i)) (vlB V N (cNm s) i) := by
  obtain ⟨i6, i7, i8, i9⟩ := q_ix (K := K) (T := T) (V := V) (N := N) (S := S) (r := 0) hp hP.1 hi
  have hc900 : (nI (30 * p + i)).toNatClampNeg = 30 * p + i := cl_900 hp (by have := hP.1; omega)
  obtain ⟨d6, d7, d8, d9⟩ := hD.2 i hi
  unfold fX12_does vlB
  rw [if_pos i9, hc900, d9, if_pos i8, d8]
  rcases hP.2.2.2.2.2.1 i hi with ⟨e, a, b⟩ | ⟨e, a, b⟩
  · rw [if_pos e, if_pos e]
  · obtain ⟨vj, hvj, ev⟩ := t_lt4 a b
    have en : ¬ N i = 0 := by rw [e]; decide
    rw [if_neg en, if_neg en, if_pos i8, ev, if_pos (inS_ok (by decide) rfl hvj (by decide)), nI_clamp (by omega), hQ.f.2.2 vj hvj]
theorem q_does {p n fu i : Nat} {K T V N : Nat → Int32} {cl : Nat → Nat} {S : SM} {s : Cor} {st : Stk} (hp : p < 30) (hP : VP K T V N n) (hcl : ClOK K n cl) (hD : PD p n K T V N S) (hfu : 2000 ≤ fu) (hi : i < n) (hC : CI s) (hQ : QC p S s) (hf : cF s = 0) (hS : QS S st) (hl : st.length < 300) (hcs : calls st ≤ 8) (hat : sc S 27 = nI i) (h6 : K i ≠ 6) (h8 : K i ≠ 8) (hne : ¬ (K i = 5 ∧ 0 < vlB V N (cNm s) i ∧ cl i = i + 1)) :
    ∃ S', fX12_does fu S (nI p) (nI (30 * p + i)) = some S' ∧ RF p S S' ∧ QC p S' (doB K T cl (wsF K T n) i st s (vlB V N (cNm s) i)).2.2 ∧ AT S' (doB K T cl (wsF K T n) i st s (vlB V N (cNm s) i)).1 (doB K T cl (wsF K T n) i st s (vlB V N (cNm s) i)).2.1 (doB K T cl (wsF K T n) i st s (vlB V N (cNm s) i)).2.2 := by
  obtain ⟨i6, i7, i8, i9⟩ := q_ix (K := K) (T := T) (V := V) (N := N) (S := S) (r := 0) hp hP.1 hi
  have hc900 : (nI (30 * p + i)).toNatClampNeg = 30 * p + i := cl_900 hp (by have := hP.1; omega)
  obtain ⟨d6, d7, d8, d9⟩ := hD.2 i hi
  obtain ⟨v1, v2⟩ := vl_ok (hP.2.2.2.2.2.1 i hi) (CI_nm hC)
  have hK := hP.2.2.2.1 i hi
  obtain ⟨tj, htj, et⟩ := t_lt4 (hP.2.2.2.2.1 i hi).1 (hP.2.2.2.2.1 i hi).2
  have e0 := q_does0 (fu := fu) hp hP hD hi hQ
  rw [e0]
  generalize vlB V N (cNm s) i = v at v1 v2 hne ⊢
  unfold fX12_does_L29
  rw [if_pos i6, hc900, d6]
  have at1 : ∀ S1 s1, GF p S S1 → AT S1 (i + 1) st s1 := fun S1 s1 g _ => ⟨hS.gf g, by rw [g.1 27 (by omega), hat, nI_1]⟩
  unfold doB
  by_cases k0 : K i = 0
  · simp only [if_pos k0]
    unfold fX12_does_L53
    by_cases ev : 0 ≤ v
    · rw [if_pos ev, if_neg (Int32.not_lt.mpr ev)]
      obtain ⟨j, hj, rfl⟩ := nI_of2 (M := 999) (n := 999) rfl (fun q => Int32.lt_irrefl (Int32.lt_of_lt_of_le q ev)) v2
      rw [nI_clamp (by omega)]
      have f0 : QC p (uc S 26 0) s := by
        obtain ⟨x, y, h9, d, f, c, nm, R, U, sa⟩ := s
        have hf : f = 0 := hf
        obtain ⟨q1, q2, q3, q4, q5, q6, q7, q8, q9, q10⟩ := hQ
        exact ⟨q1, q2, q3, q4, hf.symm, q6, q7, q8, q9, q10⟩
      obtain ⟨S1, m1, m2, m3⟩ := q_fw (fu := fu) (v := j) hp (by omega) j 0 (fu - j - 1) (uc S 26 0) s (by omega) hC f0
      rw [show fu - j - 1 + j + 1 = fu by omega] at m1
      exact ⟨S1, m1, ((GF.uc (by omega)).trans m3).rf, m2, at1 _ _ ((GF.uc (by omega)).trans m3)⟩
    · rw [if_neg ev, if_pos (Int32.not_le.mp ev)]
      have f3 : QC p (uc S 26 3) (fltB 3 s) := by
        obtain ⟨x, y, h9, d, f, c, nm, R, U, sa⟩ := s
        obtain ⟨q1, q2, q3, q4, q5, q6, q7, q8, q9, q10⟩ := hQ
        exact ⟨q1, q2, q3, q4, rfl, q6, q7, q8, q9, q10⟩
      refine ⟨uc S 26 3, ?_, RF.uc (by omega), f3, at1 _ _ (GF.uc (by omega))⟩
      obtain ⟨m, rfl⟩ : ∃ m, fu = m + 1 := ⟨fu - 1, by omega⟩
      show fX12_does_L59b (m + 1) _ _ _ _ _ = _
      unfold fX12_does_L59b
      rw [if_pos (Int32.le_of_lt (Int32.not_le.mp ev))]
  · simp only [if_neg k0]
    by_cases k1 : K i = 1
    · simp only [if_pos k1]
      refine ⟨_, rfl, RF.uc (by omega), ?_, at1 _ _ (GF.uc (by omega))⟩
      obtain ⟨x, y, h9, d, f, c, nm, R, U, sa⟩ := s
      obtain ⟨q1, q2, q3, q4, q5, q6, q7, q8, q9, q10⟩ := hQ
      refine ⟨q1, q2, ?_, q4, q5, q6, q7, q8, q9, q10⟩
      rw [sc_uc, if_pos rfl, q3]
      rfl
    · simp only [if_neg k1]
      by_cases k2 : K i = 2
      · simp only [if_pos k2]
        have pn : ∀ b : Int32, (b = 0 ∨ b = 1) → (if v = 1 then (1 : Int32) else 0) = b → ∃ S', fX12_does_L128 fu S b = some S' ∧ RF p S S' ∧ QC p S' (penB v s) ∧ AT S' (i + 1) st (penB v s) := by
          intro b hb eb
          unfold fX12_does_L128
          rw [if_pos hb]
          refine ⟨_, rfl, RF.uc (by omega), ?_, at1 _ _ (GF.uc (by omega))⟩
          obtain ⟨x, y, h9, d, f, c, nm, R, U, sa⟩ := s
          obtain ⟨q1, q2, q3, q4, q5, q6, q7, q8, q9, q10⟩ := hQ
          exact ⟨q1, q2, q3, (show sc (uc S 24 b) 24 = b by rw [sc_uc, if_pos rfl]).trans eb.symm, q5, q6, q7, q8, q9, q10⟩
        by_cases ev : v = 1
        · rw [if_pos ev]
          exact pn 1 (Or.inr rfl) (if_pos ev)
        · rw [if_neg ev]
          exact pn 0 (Or.inl rfl) (if_neg ev)
      · simp only [if_neg k2]
        by_cases k3 : K i = 3
        · simp only [if_pos k3]
          unfold fX12_does_L146
          rw [if_pos k3, et]
          obtain ⟨S1, m1, m2, m3⟩ := q_setnm (v := v) hQ hf htj (nI (30 * p + i)) i7 (by rw [hc900, d7, et]) fu
          exact ⟨S1, m1, m3.rf, m2, at1 _ _ m3⟩
        · simp only [if_neg k3]
          by_cases k4 : K i = 4
          · simp only [if_pos k4]
            unfold fX12_does_L146
            rw [if_neg k3, if_pos i7, hc900, d7, et, if_pos (inS_ok (by decide) rfl htj (by decide)), nI_clamp (by omega), hQ.f.2.2 tj htj]
            obtain ⟨S1, m1, m2, m3⟩ := q_setnm (v := cNm s tj + v) hQ hf htj (nI (30 * p + i)) i7 (by rw [hc900, d7, et]) fu
            exact ⟨S1, m1, m3.rf, m2, at1 _ _ m3⟩
          · simp only [if_neg k4]
            by_cases k5 : K i = 5
            · simp only [if_pos k5]
              have hC9 := hcl i hi (Or.inl k5)
              by_cases ev : 0 < v
              · have hne2 : ¬ (v ≤ 0 ∨ cl i = i + 1) := fun q => q.elim (fun a => Int32.lt_irrefl (Int32.lt_of_lt_of_le ev a)) (fun a => hne ⟨k5, ev, a⟩)
                simp only [if_neg hne2]
                rw [if_pos ev]
                unfold fX12_does_L257
                rw [if_pos k5, hat, q_enters hS.1 hl]
                refine ⟨_, rfl, ((RF.ua (by omega)).trans (RF.ua (by omega))).trans (RF.uc (by omega)), QC.uc (by omega) (QC.ua (Or.inr rfl) (QC.ua (Or.inl rfl) hQ)), fun _ => ⟨QS.push hS rfl ?_ (fun j => ?_) (fun j => ?_), ?_⟩⟩
                · have hv : v ≠ -1 := fun q => by rw [q] at ev; exact absurd ev (by decide)
                  show sc S 29 = nI ((if v = -1 then 1 else 0) + calls st)
                  rw [if_neg hv, Nat.zero_add, hS.2.1]
                · exact ar16
                · exact ar17
                · show sc S 27 + 1 = nI (i + 1)
                  rw [hat, nI_1]
              · simp only [if_pos (Or.inl (Int32.not_lt.mp ev) : v ≤ 0 ∨ cl i = i + 1)]
                rw [if_neg ev, hat, q_endOf hp hP.1 hD (Or.inl k5) hC9 (by omega), bi_some]
                refine ⟨_, rfl, RF.uc (by omega), QC.uc (by omega) hQ, fun _ => ⟨⟨hS.1, hS.2.1, hS.2.2.of (fun j _ => ⟨rfl, rfl⟩)⟩, ?_⟩⟩
                show nI (cl i) + 1 = _
                rw [nI_1]
            · simp only [if_neg k5]
              unfold fX12_does_L257
              rw [if_neg k5, if_pos i7, hc900, d7]
              obtain ⟨S1, m1, m2, m3⟩ := q_callsWord (t := T i) (fu := fu) hp hP hD (by omega) hQ hf hS hl hcs hat
              rw [m1, bi_some]
              refine ⟨S1, rfl, m2, ?_⟩
              cases hw : wsF K T n (T i) with
              | none =>
                rw [hw] at m3
                refine ⟨m3, fun q => ?_⟩
                obtain ⟨x, y, h9, d, f, c, nm, R, U, sa⟩ := s
                exact absurd q (show ¬ (5 : Int32) = 0 by decide)
              | some w =>
                rw [hw] at m3
                by_cases e8 : calls st = 8
                · simp only [if_pos e8] at m3 ⊢
                  refine ⟨m3, fun q => ?_⟩
                  obtain ⟨x, y, h9, d, f, c, nm, R, U, sa⟩ := s
                  exact absurd q (show ¬ (4 : Int32) = 0 by decide)
                · simp only [if_neg e8] at m3 ⊢
                  exact ⟨m3.1, fun _ => ⟨m3.2.1, by rw [m3.2.2, nI_1]⟩⟩
