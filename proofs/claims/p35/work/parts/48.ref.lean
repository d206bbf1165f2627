/-! the whole run of the reference -/
def rnB (K T V N : Nat → Int32) (n : Nat) (cl : Nat → Nat) (ws : Int32 → Option Nat) : Nat → Nat × Stk × Cor → Nat × Stk × Cor
  | 0, b => b
  | k + 1, b => if b.1 < n ∧ cF b.2.2 = 0 then rnB K T V N n cl ws k (stB K T V N cl ws b.1 b.2.1 b.2.2) else b
theorem rnB_on {K T V N : Nat → Int32} {n : Nat} {cl : Nat → Nat} {ws : Int32 → Option Nat} {k : Nat} {b : Nat × Stk × Cor} (h : b.1 < n ∧ cF b.2.2 = 0) : rnB K T V N n cl ws (k + 1) b = rnB K T V N n cl ws k (stB K T V N cl ws b.1 b.2.1 b.2.2) := if_pos h
theorem rnB_off {K T V N : Nat → Int32} {n : Nat} {cl : Nat → Nat} {ws : Int32 → Option Nat} {k : Nat} {b : Nat × Stk × Cor} (h : ¬ (b.1 < n ∧ cF b.2.2 = 0)) : rnB K T V N n cl ws k b = b := by
  cases k with
  | zero => rfl
  | succ k => exact if_neg h
/-- a repeat of an empty block -/
theorem q_rep0 {p n fu i : Nat} {K T V N : Nat → Int32} {cl : Nat → Nat} {S : SM} {s : Cor} {st : Stk} (hp : p < 30) (hP : VP K T V N n) (hcl : ClOK K n cl) (hD : PD p n K T V N S) (hfu : 2000 ≤ fu) (hi : i < n) (hB : BI K n i st s) (hQ : QC p S s) (hf : cF s = 0) (hS : QS S st) (hat : sc S 27 = nI i) (ec : cC s ≠ 600) (h5 : K i = 5) (hv : 0 < vlB V N (cNm s) i) (he : cl i = i + 1) :
    ∃ k S', k ≤ 1000 ∧ Tns p fu k S S' ∧ RF p S S' ∧ QC p S' (cntB s) ∧ QS S' st ∧ sc S' 27 = nI (cl i + 1) := by
  have hn := hP.1
  obtain ⟨i6, i7, i8, i9⟩ := q_ix (K := K) (T := T) (V := V) (N := N) (S := S) (r := 0) hp hn hi
  have hc900 : (nI (30 * p + i)).toNatClampNeg = 30 * p + i := cl_900 hp (by omega)
  obtain ⟨d6, d7, d8, d9⟩ := hD.2 i hi
  have hl := BI_len hn hB
  obtain ⟨S1, m1, m2, m3⟩ := (q_counts hQ (CI_c hB.2.2.2)).2 ec
  obtain ⟨c1, c2, c3⟩ := CI_cnt hB.2.2.2 ec
  have ef : cF (cntB s) = 0 := by
    obtain ⟨x, y, h9, d, f, c, nm, R, U, sa⟩ := s
    exact hf
  have en : cNm (cntB s) = cNm s := by
    obtain ⟨x, y, h9, d, f, c, nm, R, U, sa⟩ := s
    rfl
  have hS1 := hS.gf m3
  have hD1 := hD.rf m3.rf
  have hat1 : sc S1 27 = nI i := by rw [m3.1 27 (by omega), hat]
  obtain ⟨v1, v2⟩ := vl_ok (hP.2.2.2.2.2.1 i hi) (CI_nm hB.2.2.2)
  have hC9 := hcl i hi (Or.inl h5)
  have h8 : K (i + 1) = 8 := by rw [← he]; exact hC9.2.2.1
  have hi1 : i + 1 < n := by rw [← he]; exact hC9.2.1
  have ed : fX12_does fu S1 (nI p) (nI (30 * p + i)) = some (uc (ua (ua S1 16 st.length (nI i)) 17 st.length (vlB V N (cNm s) i)) 28 (nI (st.length + 1))) := by
    rw [q_does0 hp hP hD1 hi m2, en]
    unfold fX12_does_L29
    rw [if_pos i6, hc900, (hD1.2 i hi).1, h5, if_neg (by decide), if_neg (by decide), if_neg (by decide), if_neg (by decide), if_neg (by decide), if_pos rfl, if_pos hv]
    unfold fX12_does_L257
    rw [if_pos rfl, hat1, q_enters hS1.1 hl, bi_some]
  have T1 : Trn p fu S (uc (uc (ua (ua S1 16 st.length (nI i)) 17 st.length (vlB V N (cNm s) i)) 28 (nI (st.length + 1))) 27 (nI (i + 1))) := by
    intro m
    show fX12_runs_L5b fu (fX12_runs_L5 fu m) S (nI p) = _
    unfold fX12_runs_L5b
    rw [if_pos (q_i5 hp), nI_clamp (by omega), hD.1, hat, if_neg (fun q => by have := (nI_leI (by omega) (by omega)).mp q; omega), hQ.f.1, if_pos hf, q_i30, if_pos i6, hc900, d6, if_neg (by rw [h5]; decide), if_pos i6, if_neg (by rw [h5]; decide), m1, bW_some, if_neg (by decide), ed, bi_some]
    unfold fX12_runs_L93
    rw [show sc (uc (ua (ua S1 16 st.length (nI i)) 17 st.length (vlB V N (cNm s) i)) 28 (nI (st.length + 1))) 27 = nI i from hat1, nI_1]
  generalize vlB V N (cNm s) i = v at hv v1 v2 T1 ed
  obtain ⟨t, ht, ev⟩ : ∃ t, t < 999 ∧ v = nI (t + 1) := by
    obtain ⟨j, hj, rfl⟩ := nI_of2 (M := 999) (n := 999) rfl (fun q => Int32.lt_irrefl (Int32.lt_trans q hv)) v2
    cases j with
    | zero => exact absurd hv (by decide)
    | succ j => exact ⟨j, by omega, rfl⟩
  have hQS : QS (uc (uc (ua (ua S1 16 st.length (nI i)) 17 st.length v) 28 (nI (st.length + 1))) 27 (nI (i + 1))) ((i, nI (t + 1)) :: st) := by
    have hne : nI (t + 1) ≠ -1 := fun q => by rw [ev, q] at hv; exact absurd hv (by decide)
    refine QS.uc (by decide) (QS.push hS1 rfl ?_ (fun j => ar16) (fun j => by rw [ev]; exact ar17))
    show sc S1 29 = nI ((if nI (t + 1) = -1 then 1 else 0) + calls st)
    rw [if_neg hne, Nat.zero_add, hS1.2.1]
  have rf1 : RF p S (uc (uc (ua (ua S1 16 st.length (nI i)) 17 st.length v) 28 (nI (st.length + 1))) 27 (nI (i + 1))) := m3.rf.trans ((((RF.ua (by omega)).trans (RF.ua (by omega))).trans (RF.uc (by omega))).trans (RF.uc (by omega)))
  obtain ⟨S2, w1, w2, w3, w4, w5⟩ := q_empty (fu := fu) (s := cntB s) (st := st) hp hn hi1 h8 ef hl t _ (by omega) (hD.rf rf1) (QC.uc (by omega) (QC.uc (by omega) (QC.ua (Or.inr rfl) (QC.ua (Or.inl rfl) m2)))) hQS rfl
  refine ⟨1 + (t + 1), S2, by omega, (Tns.one T1).add w1, rf1.trans w2, w3, w4, ?_⟩
  rw [w5, he]
theorem q_loop {p n fu : Nat} {K T V N : Nat → Int32} {cl : Nat → Nat} (hp : p < 30) (hP : VP K T V N n) (hcl : ClOK K n cl) (hfu : 2000 ≤ fu) : ∀ (L i : Nat) (st : Stk) (s : Cor) (S : SM), PD p n K T V N S → BI K n i st s → QC p S s → (cF s = 0 → QS S st ∧ sc S 27 = nI i) → PSI K n i st (cC s) < L →
    ∃ k S', k ≤ 1000 * L + 1 ∧ (∀ m, fX12_runs_L5 fu (m + k) S (nI p) = some S') ∧ RF p S S' ∧ QC p S' (rnB K T V N n cl (wsF K T n) L (i, st, s)).2.2 ∧ BI K n (rnB K T V N n cl (wsF K T n) L (i, st, s)).1 (rnB K T V N n cl (wsF K T n) L (i, st, s)).2.1 (rnB K T V N n cl (wsF K T n) L (i, st, s)).2.2 ∧ ¬ ((rnB K T V N n cl (wsF K T n) L (i, st, s)).1 < n ∧ cF (rnB K T V N n cl (wsF K T n) L (i, st, s)).2.2 = 0) := by
  intro L
  induction L with
  | zero => intro i st s S hD hB hQ hS hL; exact absurd hL (Nat.not_lt_zero _)
  | succ L ih =>
    intro i st s S hD hB hQ hS hL
    by_cases hon : i < n ∧ cF s = 0
    · rw [rnB_on (b := (i, st, s)) hon]
      obtain ⟨hS1, hat⟩ := hS hon.2
      have hok := stB_ok hP hcl (wsF_ok hP) hon.1 hB
      have step : ∃ k S1, k ≤ 1000 ∧ Tns p fu k S S1 ∧ RF p S S1 ∧ QC p S1 (stB K T V N cl (wsF K T n) i st s).2.2 ∧ (cF (stB K T V N cl (wsF K T n) i st s).2.2 = 0 → QS S1 (stB K T V N cl (wsF K T n) i st s).2.1 ∧ sc S1 27 = nI (stB K T V N cl (wsF K T n) i st s).1) := by
        by_cases he : cC s ≠ 600 ∧ (K i = 5 ∧ 0 < vlB V N (cNm s) i ∧ cl i = i + 1)
        · obtain ⟨ec, h5, hv, h1⟩ := he
          obtain ⟨k, S1, w0, w1, w2, w3, w4, w5⟩ := q_rep0 hp hP hcl hD hfu hon.1 hB hQ hon.2 hS1 hat ec h5 hv h1
          have es : stB K T V N cl (wsF K T n) i st s = (cl i + 1, st, cntB s) := by
            unfold stB
            rw [if_neg (by rw [h5]; decide), if_neg (by rw [h5]; decide), if_neg ec]
            unfold doB
            rw [if_neg (by rw [h5]; decide), if_neg (by rw [h5]; decide), if_neg (by rw [h5]; decide), if_neg (by rw [h5]; decide), if_neg (by rw [h5]; decide), if_pos h5, if_pos (Or.inr h1)]
          rw [es]
          exact ⟨k, S1, w0, w1, w2, w3, fun _ => ⟨w4, w5⟩⟩
        · obtain ⟨S1, w1, w2, w3, w4⟩ := q_turn (cl := cl) (st := st) hp hP hcl hD hfu hon.1 hB hQ hon.2 hS1 hat (fun ec q => he ⟨ec, q⟩)
          exact ⟨1, S1, by decide, Tns.one w1, w2, w3, w4⟩
      obtain ⟨k1, S1, a0, a1, a2, a3, a4⟩ := step
      obtain ⟨b1, b2, b3⟩ := hok
      by_cases ef : cF (stB K T V N cl (wsF K T n) i st s).2.2 = 0
      · obtain ⟨k2, S2, e0, e1, e2, e3⟩ := ih _ _ _ S1 (hD.rf a2) b1 a3 a4 (Nat.lt_of_lt_of_le (b3 ef) (Nat.le_of_lt_succ hL))
        refine ⟨k2 + k1, S2, by omega, fun m => ?_, a2.trans e2, e3⟩
        rw [show m + (k2 + k1) = (m + k2) + k1 by omega, a1, e1]
      · rw [rnB_off (fun q => ef q.2)]
        refine ⟨1 + k1, S1, by omega, fun m => ?_, a2, a3, b1, fun q => ef q.2⟩
        rw [show m + (1 + k1) = (m + 1) + k1 by omega, a1]
        show fX12_runs_L5b fu (fX12_runs_L5 fu m) S1 (nI p) = _
        unfold fX12_runs_L5b
        rw [if_pos (q_i5 hp), a3.f.1, if_neg ef]
        split <;> rfl
    · rw [rnB_off hon]
      refine ⟨1, S, by omega, fun m => ?_, RF.rfl9, hQ, hB, hon⟩
      show fX12_runs_L5b fu (fX12_runs_L5 fu m) S (nI p) = _
      unfold fX12_runs_L5b
      rw [if_pos (q_i5 hp), nI_clamp (by omega), hD.1, hQ.f.1]
      by_cases ef : cF s = 0
      · have hin : ¬ i < n := fun q => hon ⟨q, ef⟩
        have hle := hB.1
        have hn := hP.1
        rw [(hS ef).2, if_pos ((nI_leI (by omega) (by omega)).mpr (by omega))]
      · rw [if_neg ef]
        split <;> rfl
