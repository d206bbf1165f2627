/-! the loop of the run: a turn, an empty block, all of it -/
/-- one turn, whatever the fuel -/
def Trn (p fu : Nat) (S S' : SM) : Prop := ∀ m, fX12_runs_L5 fu (m + 1) S (nI p) = fX12_runs_L5 fu m S' (nI p)
theorem q_i5 {p : Nat} (hp : p < 30) : inS 0 5 (nI p) = true := inS_ok (by decide) rfl hp (by decide)
theorem QSt.uc {S : SM} {k : Nat} {v : Int32} {st : Stk} (h : QSt S st) : QSt (uc S k v) st := h.of (fun _ _ => ⟨rfl, rfl⟩)
theorem QS.uc {S : SM} {k : Nat} {v : Int32} {st : Stk} (hk : k ≠ 28 ∧ k ≠ 29) (h : QS S st) : QS (uc S k v) st := ⟨(if_neg (fun q => hk.1 q.symm)).trans h.1, (if_neg (fun q => hk.2 q.symm)).trans h.2.1, h.2.2.uc⟩
theorem q_turn {p n fu i : Nat} {K T V N : Nat → Int32} {cl : Nat → Nat} {S : SM} {s : Cor} {st : Stk} (hp : p < 30) (hP : VP K T V N n) (hcl : ClOK K n cl) (hD : PD p n K T V N S) (hfu : 2000 ≤ fu) (hi : i < n) (hB : BI K n i st s) (hQ : QC p S s) (hf : cF s = 0) (hS : QS S st) (hat : sc S 27 = nI i) (hne : cC s ≠ 600 → ¬ (K i = 5 ∧ 0 < vlB V N (cNm s) i ∧ cl i = i + 1)) :
    ∃ S', Trn p fu S S' ∧ RF p S S' ∧ QC p S' (stB K T V N cl (wsF K T n) i st s).2.2 ∧ (cF (stB K T V N cl (wsF K T n) i st s).2.2 = 0 → QS S' (stB K T V N cl (wsF K T n) i st s).2.1 ∧ sc S' 27 = nI (stB K T V N cl (wsF K T n) i st s).1) := by
  have hn := hP.1
  obtain ⟨i6, i7, i8, i9⟩ := q_ix (K := K) (T := T) (V := V) (N := N) (S := S) (r := 0) hp hP.1 hi
  have hc900 : (nI (30 * p + i)).toNatClampNeg = 30 * p + i := cl_900 hp (by omega)
  obtain ⟨d6, d7, d8, d9⟩ := hD.2 i hi
  have hl := BI_len hn hB
  have head : ∀ m, fX12_runs_L5 fu (m + 1) S (nI p) = (if K i = 6 then (Option.bind (fX12_endOf fu S (nI p) (nI i)) fun v53 => (fX12_runs_L93 fu (fX12_runs_L5 fu m) (uc S 27 v53) (nI p))) else (if K i = 8 then (Option.bind (fX12_ends S) fun X74 => (fX12_runs_L93 fu (fX12_runs_L5 fu m) X74 (nI p))) else (bW (fX12_counts S) fun v81 X81 => (if v81 = 0 then (fX12_runs_L93 fu (fX12_runs_L5 fu m) X81 (nI p)) else (Option.bind (fX12_does fu X81 (nI p) (nI (30 * p + i))) fun X90 => (fX12_runs_L93 fu (fX12_runs_L5 fu m) X90 (nI p))))))) := by
    intro m
    show fX12_runs_L5b fu (fX12_runs_L5 fu m) S (nI p) = _
    unfold fX12_runs_L5b
    rw [if_pos (q_i5 hp), nI_clamp (by omega), hD.1, hat, if_neg (fun q => by have := (nI_leI (by omega) (by omega)).mp q; omega), hQ.f.1, if_pos hf, q_i30, if_pos i6, hc900, d6, if_pos i6]
  unfold stB
  by_cases e6 : K i = 6
  · simp only [if_pos e6]
    refine ⟨uc (uc S 27 (nI (cl i))) 27 (nI (cl i + 1)), fun m => ?_, (RF.uc (by omega)).trans (RF.uc (by omega)), QC.uc (by omega) (QC.uc (by omega) hQ), fun _ => ⟨QS.uc (by decide) (QS.uc (by decide) hS), rfl⟩⟩
    rw [head, if_pos e6, q_endOf hp hn hD (Or.inr e6) (hcl i hi (Or.inr e6)) (by omega), bi_some]
    unfold fX12_runs_L93
    rw [sc_uc, if_pos rfl, nI_1]
  · simp only [if_neg e6]
    by_cases e8 : K i = 8
    · simp only [if_pos e8]
      have hb0 := (hP.2.1 i hi).1 e8
      cases st with
      | nil => exact absurd hB.2.1 hb0
      | cons t st =>
        obtain ⟨a, v⟩ := t
        have hv : v = -1 ∨ 0 < v := by
          rcases hB.2.1 with ⟨k1, -⟩ | ⟨-, M, -, -, -, -, k6, -⟩
          · exact Or.inl k1
          · exact Or.inr k6
        obtain ⟨S1, m1, m2, m3, m4, m5⟩ := q_ends (i := i) hQ hS hv (by have := hl; rw [List.length_cons] at this; omega) hat
        refine ⟨uc S1 27 (nI (endB i ((a, v) :: st)).1), fun m => ?_, m3.trans (RF.uc (by omega)), QC.uc (by omega) m2, fun _ => ⟨QS.uc (by decide) m4, rfl⟩⟩
        rw [head, if_neg e6, if_pos e8, m1, bi_some]
        unfold fX12_runs_L93
        rw [m5]
    · simp only [if_neg e8]
      obtain ⟨n1, n2⟩ := q_counts hQ (CI_c hB.2.2.2)
      by_cases ec : cC s = 600
      · simp only [if_pos ec]
        obtain ⟨m1, m2, m3⟩ := n1 ec
        refine ⟨uc (uc S 26 1) 27 (sc (uc S 26 1) 27 + 1), fun m => ?_, m3.rf.trans (RF.uc (by omega)), QC.uc (by omega) m2, fun q => ?_⟩
        · rw [head, if_neg e6, if_neg e8, m1, bW_some, if_pos rfl]
          rfl
        · obtain ⟨x, y, h9, d, f, c, nm, R, U, sa⟩ := s
          exact absurd q (show ¬ (1 : Int32) = 0 by decide)
      · simp only [if_neg ec]
        obtain ⟨S1, m1, m2, m3⟩ := n2 ec
        obtain ⟨c1, c2, c3⟩ := CI_cnt hB.2.2.2 ec
        have ef : cF (cntB s) = 0 := by
          obtain ⟨x, y, h9, d, f, c, nm, R, U, sa⟩ := s
          exact hf
        have en : cNm (cntB s) = cNm s := by
          obtain ⟨x, y, h9, d, f, c, nm, R, U, sa⟩ := s
          rfl
        obtain ⟨S2, w1, w2, w3, w4⟩ := q_does (cl := cl) (st := st) hp hP hcl (hD.rf m3.rf) hfu hi c1 m2 ef (hS.gf m3) hl hB.2.2.1 (by rw [m3.1 27 (by omega), hat]) e6 e8 (by rw [en]; exact hne ec)
        rw [en] at w3 w4
        refine ⟨uc S2 27 (sc S2 27 + 1), fun m => ?_, (m3.rf.trans w2).trans (RF.uc (by omega)), QC.uc (by omega) w3, fun q => ?_⟩
        · rw [head, if_neg e6, if_neg e8, m1, bW_some, if_neg (by decide), w1, bi_some]
          rfl
        · obtain ⟨a1, a2⟩ := w4 q
          exact ⟨QS.uc (by decide) a1, a2⟩
theorem Trn.go {p fu : Nat} {S S' : SM} (h : Trn p fu S S') (m : Nat) : fX12_runs_L5 fu (m + 1) S (nI p) = fX12_runs_L5 fu m S' (nI p) := h m
/-- some turns -/
def Tns (p fu k : Nat) (S S' : SM) : Prop := ∀ m, fX12_runs_L5 fu (m + k) S (nI p) = fX12_runs_L5 fu m S' (nI p)
theorem Tns.one {p fu : Nat} {S S' : SM} (h : Trn p fu S S') : Tns p fu 1 S S' := h
theorem Tns.add {p fu j k : Nat} {a b c : SM} (h : Tns p fu j a b) (h2 : Tns p fu k b c) : Tns p fu (j + k) a c := fun m => by
  rw [show m + (j + k) = (m + k) + j by omega, h, h2]
theorem endB_cons {i a : Nat} {v : Int32} {st : Stk} : endB i ((a, v) :: st) = if v = -1 then (a + 1, st) else if v - 1 ≤ 0 then (i + 1, st) else (a + 1, (a, v - 1) :: st) := rfl
/-- an end alone, whatever the rest of the stack -/
theorem q_end1 {p n fu i a : Nat} {v : Int32} {K T V N : Nat → Int32} {S : SM} {s : Cor} {st : Stk} (hp : p < 30) (hn : n ≤ 30) (hD : PD p n K T V N S) (hi : i < n) (h8 : K i = 8) (hQ : QC p S s) (hf : cF s = 0) (hS : QS S ((a, v) :: st)) (hv : v = -1 ∨ 0 < v) (hl : st.length < 300) (hat : sc S 27 = nI i) :
    ∃ S', Trn p fu S S' ∧ RF p S S' ∧ QC p S' s ∧ QS S' (endB i ((a, v) :: st)).2 ∧ sc S' 27 = nI (endB i ((a, v) :: st)).1 := by
  obtain ⟨i6, i7, i8, i9⟩ := q_ix (K := K) (T := T) (V := V) (N := N) (S := S) (r := 0) hp hn hi
  have hc900 : (nI (30 * p + i)).toNatClampNeg = 30 * p + i := cl_900 hp (by omega)
  obtain ⟨S1, m1, m2, m3, m4, m5⟩ := q_ends (i := i) hQ hS hv hl hat
  refine ⟨uc S1 27 (nI (endB i ((a, v) :: st)).1), fun m => ?_, m3.trans (RF.uc (by omega)), QC.uc (by omega) m2, QS.uc (by decide) m4, rfl⟩
  show fX12_runs_L5b fu (fX12_runs_L5 fu m) S (nI p) = _
  unfold fX12_runs_L5b
  rw [if_pos (q_i5 hp), nI_clamp (by omega), hD.1, hat, if_neg (fun q => by have := (nI_leI (by omega) (by omega)).mp q; omega), hQ.f.1, if_pos hf, q_i30, if_pos i6, hc900, (hD.2 i hi).1, if_neg (by rw [h8]; decide), if_pos i6, if_pos h8, m1, bi_some]
  unfold fX12_runs_L93
  rw [m5]
/-- the rounds of an empty block -/
theorem q_empty {p n fu a : Nat} {K T V N : Nat → Int32} {s : Cor} {st : Stk} (hp : p < 30) (hn : n ≤ 30) (hi : a + 1 < n) (h8 : K (a + 1) = 8) (hf : cF s = 0) (hl : st.length < 300) : ∀ (t : Nat) (S : SM), t < 1000 → PD p n K T V N S → QC p S s → QS S ((a, nI (t + 1)) :: st) → sc S 27 = nI (a + 1) →
    ∃ S', Tns p fu (t + 1) S S' ∧ RF p S S' ∧ QC p S' s ∧ QS S' st ∧ sc S' 27 = nI (a + 2) := by
  intro t
  induction t with
  | zero =>
    intro S ht hD hQ hS hat
    obtain ⟨S1, m1, m2, m3, m4, m5⟩ := q_end1 (fu := fu) (st := st) hp hn hD hi h8 hQ hf hS (Or.inr (by decide)) hl hat
    have ee : endB (a + 1) ((a, nI (0 + 1)) :: st) = (a + 1 + 1, st) := by
      rw [endB_cons, if_neg (by decide), if_pos (by decide)]
    rw [ee] at m4 m5
    exact ⟨S1, m1, m2, m3, m4, m5⟩
  | succ t ih =>
    intro S ht hD hQ hS hat
    have hpos : (0 : Int32) < nI (t + 1 + 1) := Int32.not_le.mp (nI_nle (by omega) (by omega))
    obtain ⟨S1, m1, m2, m3, m4, m5⟩ := q_end1 (fu := fu) (st := st) hp hn hD hi h8 hQ hf hS (Or.inr hpos) hl hat
    have hne : ¬ nI (t + 1 + 1) = -1 := fun q => by rw [q] at hpos; exact absurd hpos (by decide)
    have hnl : ¬ nI (t + 1 + 1) - 1 ≤ 0 := by rw [nI_pred]; exact nI_nle (by omega) (by omega)
    have ee : endB (a + 1) ((a, nI (t + 1 + 1)) :: st) = (a + 1, (a, nI (t + 1 + 1) - 1) :: st) := (if_neg hne).trans (if_neg hnl)
    rw [ee] at m4 m5
    rw [nI_pred] at m4
    obtain ⟨S2, w1, w2, w3, w4, w5⟩ := ih S1 (by omega) (hD.rf m2) m3 m4 m5
    refine ⟨S2, ?_, m2.trans w2, w3, w4, w5⟩
    have := (Tns.one m1).add w1
    rw [show 1 + (t + 1) = t + 1 + 1 by omega] at this
    exact this
