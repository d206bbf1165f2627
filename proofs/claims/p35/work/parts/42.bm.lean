/-! A step of the machine keeps what holds, and nears the end -/
theorem pc_15 {K T V N : Nat → Int32} {n : Nat} (hP : VP K T V N n) (i : Nat) : pc K n - pc K i ≤ 15 := by
  have h1 := pc_le hP.2.1 n (Nat.le_refl n)
  have h2 := hP.1
  omega
theorem psi_cnt {K T V N : Nat → Int32} {n i i' c c' : Nat} {st st' : Stk} (hP : VP K T V N n) (h6 : K i ≠ 6) (h8 : K i ≠ 8) (hc : c + 1 ≤ c') (h600 : c' ≤ 600) (hcalls : calls st' ≤ 8) : PSI K n i' st' c' < PSI K n i st c := by
  unfold PSI
  rw [if_neg (show ¬ (i < n ∧ (K i = 6 ∨ K i = 8)) from fun q => q.2.elim h6 h8)]
  have h15 := pc_15 hP i'
  have h1 : (if i' < n ∧ (K i' = 6 ∨ K i' = 8) then 15 * calls st' + (pc K n - pc K i') else 0) ≤ 135 := by
    split
    · omega
    · omega
  omega
theorem SI_nil {K : Nat → Int32} {n : Nat} {st : Stk} (h : SI K n st []) : st = [] := by
  cases st with
  | nil => rfl
  | cons q st =>
    obtain ⟨a, v⟩ := q
    rcases h with ⟨-, ⟨o, e, -⟩, -⟩ | ⟨-, M, e, -⟩
    · cases e
    · cases e
theorem CI_cnt {s : Cor} (h : CI s) (hc : cC s ≠ 600) : CI (cntB s) ∧ MonB s (cntB s) ∧ cC (cntB s) = cC s + 1 := by
  obtain ⟨x, y, h9, d, f, c, nm, R, U, sa⟩ := s
  obtain ⟨h1, h2, h3, h4, h5, h6⟩ := h
  have hc : c ≠ 600 := hc
  have h6 : c ≤ 600 := h6
  exact ⟨⟨h1, h2, h3, h4, h5, by show c + 1 ≤ 600; omega⟩, ⟨Nat.le_succ c, fun j (hj : j ≤ c) => if_neg (by omega)⟩, rfl⟩
theorem CI_flt {s : Cor} {e : Int32} (h : CI s) : CI (fltB e s) ∧ MonB s (fltB e s) := by
  obtain ⟨x, y, h9, d, f, c, nm, R, U, sa⟩ := s
  exact ⟨h, Nat.le_refl _, fun _ _ => rfl⟩
theorem CI_put {s : Cor} {t v : Int32} (h : CI s) : CI (putB t v s) ∧ MonB s (putB t v s) := by
  obtain ⟨x, y, h9, d, f, c, nm, R, U, sa⟩ := s
  obtain ⟨h1, h2, h3, h4, h5, h6⟩ := h
  show CI (if _ then _ else _) ∧ MonB _ (if _ then _ else _)
  split
  · rename_i hv
    refine ⟨⟨h1, h2, h3, h4, fun i hi => ?_, h6⟩, Nat.le_refl _, fun _ _ => rfl⟩
    show -999 ≤ (if i = t.toNatClampNeg then v else nm i) ∧ (if i = t.toNatClampNeg then v else nm i) ≤ 999
    split
    · exact hv
    · exact h5 i hi
  · exact ⟨⟨h1, h2, h3, h4, h5, h6⟩, Nat.le_refl _, fun _ _ => rfl⟩
theorem CI_trn {s : Cor} {v : Int32} (h : CI s) (h1 : -999 ≤ v) (h2 : v ≤ 999) : CI (trnB v s) ∧ MonB s (trnB v s) := by
  obtain ⟨x, y, h9, d, f, c, nm, R, U, sa⟩ := s
  obtain ⟨k1, k2, k3, k4, k5, k6⟩ := h
  exact ⟨⟨k1, k2, hd_ok k3 h1 h2, k4, k5, k6⟩, Nat.le_refl _, fun _ _ => rfl⟩
theorem CI_pen {s : Cor} {v : Int32} (h : CI s) : CI (penB v s) ∧ MonB s (penB v s) := by
  obtain ⟨x, y, h9, d, f, c, nm, R, U, sa⟩ := s
  obtain ⟨k1, k2, k3, k4, k5, k6⟩ := h
  refine ⟨⟨k1, k2, k3, ?_, k5, k6⟩, Nat.le_refl _, fun _ _ => rfl⟩
  split
  · exact Or.inr rfl
  · exact Or.inl rfl
theorem CI_nm {s : Cor} (h : CI s) : ∀ i, i < 4 → -999 ≤ cNm s i ∧ cNm s i ≤ 999 := by
  obtain ⟨x, y, h9, d, f, c, nm, R, U, sa⟩ := s
  exact h.2.2.2.2.1
theorem CI_c {s : Cor} (h : CI s) : cC s ≤ 600 := by
  obtain ⟨x, y, h9, d, f, c, nm, R, U, sa⟩ := s
  exact h.2.2.2.2.2
theorem BI_next {K : Nat → Int32} {n i : Nat} {st : Stk} {s s' : Cor} (hi : i < n) (h : BI K n i st s) (h5 : K i ≠ 5) (h6 : K i ≠ 6) (h8 : K i ≠ 8) (hc : CI s') : BI K n (i + 1) st s' :=
  ⟨hi, by rw [br_no h5 h6 h8]; exact h.2.1, h.2.2.1, hc⟩
def StOK (K : Nat → Int32) (n i : Nat) (st : Stk) (s : Cor) (r : Nat × Stk × Cor) : Prop := BI K n r.1 r.2.1 r.2.2 ∧ MonB s r.2.2 ∧ (cF r.2.2 = 0 → PSI K n r.1 r.2.1 (cC r.2.2) < PSI K n i st (cC s))
theorem StOK.cnt {K T V N : Nat → Int32} {n i : Nat} {st : Stk} {s s1 : Cor} {r : Nat × Stk × Cor} (hP : VP K T V N n) (h6 : K i ≠ 6) (h8 : K i ≠ 8) (hm : MonB s s1) (hc : cC s1 = cC s + 1) (hB : BI K n r.1 r.2.1 r.2.2) (hM : MonB s1 r.2.2) : StOK K n i st s r := by
  refine ⟨hB, hm.trans hM, fun _ => psi_cnt hP h6 h8 ?_ (CI_c hB.2.2.2) hB.2.2.1⟩
  have := hM.1
  omega
theorem doB_ok {K T V N : Nat → Int32} {n i : Nat} {cl : Nat → Nat} {ws : Int32 → Option Nat} {st : Stk} {s s1 : Cor} {v : Int32} (hP : VP K T V N n) (hcl : ClOK K n cl) (hws : WsOK K T n ws) (hi : i < n) (hB : BI K n i st s) (h6 : K i ≠ 6) (h8 : K i ≠ 8) (h1 : CI s1) (hm : MonB s s1) (hc : cC s1 = cC s + 1) (v1 : -999 ≤ v) (v2 : v ≤ 999) : StOK K n i st s (doB K T cl ws i st s1 v) := by
  refine StOK.cnt hP h6 h8 hm hc ?_ ?_
  · unfold doB
    by_cases e0 : K i = 0
    · rw [if_pos e0]
      refine BI_next hi hB (by rw [e0]; decide) h6 h8 ?_
      split
      · exact (CI_flt h1).1
      · exact (fwB_ok _ h1).1
    · rw [if_neg e0]
      by_cases e1 : K i = 1
      · rw [if_pos e1]
        exact BI_next hi hB (by rw [e1]; decide) h6 h8 (CI_trn h1 v1 v2).1
      · rw [if_neg e1]
        by_cases e2 : K i = 2
        · rw [if_pos e2]
          exact BI_next hi hB (by rw [e2]; decide) h6 h8 (CI_pen h1).1
        · rw [if_neg e2]
          by_cases e3 : K i = 3
          · rw [if_pos e3]
            exact BI_next hi hB (by rw [e3]; decide) h6 h8 (CI_put h1).1
          · rw [if_neg e3]
            by_cases e4 : K i = 4
            · rw [if_pos e4]
              exact BI_next hi hB (by rw [e4]; decide) h6 h8 (CI_put h1).1
            · rw [if_neg e4]
              by_cases e5 : K i = 5
              · rw [if_pos e5]
                have hC := hcl i hi (Or.inl e5)
                by_cases e6 : v ≤ 0 ∨ cl i = i + 1
                · rw [if_pos e6]
                  exact ⟨hC.2.1, by rw [cl_br hC]; exact hB.2.1, hB.2.2.1, h1⟩
                · rw [if_neg e6]
                  have hv : 0 < v := Int32.not_le.mp (fun q => e6 (Or.inl q))
                  have hne : v ≠ -1 := fun q => by rw [q] at hv; exact absurd hv (by decide)
                  have hlt : i + 1 < n := by have a := hC.1; have b := hC.2.1; omega
                  have hk8 : K (i + 1) ≠ 8 := fun q => e6 (Or.inr (cl_un hC (cl_of hP.2.2.1 hlt q (by rw [br_op (Or.inl e5)]))))
                  refine ⟨hi, ?_, ?_, h1⟩
                  · rw [br_op (Or.inl e5)]
                    exact Or.inr ⟨hne, br K i, rfl, e5, hlt, hk8, hv, v2, hB.2.1⟩
                  · show (if v = -1 then 1 else 0) + calls st ≤ 8
                    rw [if_neg hne, Nat.zero_add]
                    exact hB.2.2.1
              · rw [if_neg e5]
                have hk := hP.2.2.2.1 i hi
                have e7 : K i = 7 := by
                  obtain ⟨j, hj, e⟩ := nI_of2 (M := 8) (n := 8) rfl (fun q => Int32.lt_irrefl (Int32.lt_of_lt_of_le q hk.1)) hk.2
                  rw [e] at e0 e1 e2 e3 e4 e5 h6 h8 ⊢
                  have : j = 7 := by
                    rcases (show j = 0 ∨ j = 1 ∨ j = 2 ∨ j = 3 ∨ j = 4 ∨ j = 5 ∨ j = 6 ∨ j = 7 ∨ j = 8 by omega) with q | q | q | q | q | q | q | q | q
                    · subst q; exact absurd rfl e0
                    · subst q; exact absurd rfl e1
                    · subst q; exact absurd rfl e2
                    · subst q; exact absurd rfl e3
                    · subst q; exact absurd rfl e4
                    · subst q; exact absurd rfl e5
                    · subst q; exact absurd rfl h6
                    · exact q
                    · subst q; exact absurd rfl h8
                  rw [this]
                  rfl
                cases hwv : ws (T i) with
                | none => exact BI_next hi hB (by rw [e7]; decide) h6 h8 (CI_flt h1).1
                | some w =>
                  by_cases e8 : calls st = 8
                  · show BI K n (if calls st = 8 then _ else _ : Nat × Stk × Cor).1 (if calls st = 8 then _ else _ : Nat × Stk × Cor).2.1 (if calls st = 8 then _ else _ : Nat × Stk × Cor).2.2
                    rw [if_pos e8]
                    exact BI_next hi hB (by rw [e7]; decide) h6 h8 (CI_flt h1).1
                  · show BI K n (if calls st = 8 then _ else _ : Nat × Stk × Cor).1 (if calls st = 8 then _ else _ : Nat × Stk × Cor).2.1 (if calls st = 8 then _ else _ : Nat × Stk × Cor).2.2
                    rw [if_neg e8]
                    obtain ⟨w1, w2, w3⟩ := hws.1 _ _ hwv
                    refine ⟨w1, ?_, ?_, h1⟩
                    · show SI K n ((i, -1) :: st) (br K (w + 1))
                      rw [br_op (Or.inr w2), (hP.2.1 w w1).2 w2]
                      exact Or.inl ⟨rfl, ⟨w, rfl, w2⟩, e7, hi, hB.2.1⟩
                    · have := hB.2.2.1
                      show (if (-1 : Int32) = -1 then 1 else 0) + calls st ≤ 8
                      rw [if_pos rfl]
                      omega
  · unfold doB
    repeat' split
    all_goals first
      | exact (CI_flt h1).2
      | exact (fwB_ok _ h1).2
      | exact (CI_trn h1 v1 v2).2
      | exact (CI_pen h1).2
      | exact (CI_put h1).2
      | exact MonB.rfl9
      | (show MonB s1 (if _ then _ else _); split; exact (CI_flt h1).2; exact (fwB_ok _ h1).2)
theorem stB_ok {K T V N : Nat → Int32} {n i : Nat} {cl : Nat → Nat} {ws : Int32 → Option Nat} {st : Stk} {s : Cor} (hP : VP K T V N n) (hcl : ClOK K n cl) (hws : WsOK K T n ws) (hi : i < n) (hB : BI K n i st s) : StOK K n i st s (stB K T V N cl ws i st s) := by
  have h15 := pc_15 hP
  unfold stB
  by_cases e6 : K i = 6
  · rw [if_pos e6]
    have hC := hcl i hi (Or.inr e6)
    have hb0 := (hP.2.1 i hi).2 e6
    refine ⟨⟨hC.2.1, by rw [cl_br hC]; exact hB.2.1, hB.2.2.1, hB.2.2.2⟩, MonB.rfl9, fun _ => ?_⟩
    unfold PSI
    rw [if_pos (show i < n ∧ (K i = 6 ∨ K i = 8) from ⟨hi, Or.inl e6⟩)]
    have p1 : pc K i ≤ pc K (cl i) := pc_mono (Nat.le_of_lt hC.1)
    have p2 : pc K (cl i + 1) = pc K (cl i) + 1 := pc_end hC.2.2.1
    have p3 : pc K (cl i + 1) ≤ pc K n := pc_mono hC.2.1
    show (600 - cC s) * 136 + (if cl i + 1 < n ∧ (K (cl i + 1) = 6 ∨ K (cl i + 1) = 8) then 15 * calls st + (pc K n - pc K (cl i + 1)) else 0) < _
    split <;> omega
  · rw [if_neg e6]
    by_cases e8 : K i = 8
    · rw [if_pos e8]
      have hb0 := (hP.2.1 i hi).1 e8
      have p2 : pc K (i + 1) = pc K i + 1 := pc_end e8
      have p3 : pc K (i + 1) ≤ pc K n := pc_mono hi
      obtain ⟨q1, q2, q3, q4⟩ := hB
      cases st with
      | nil => exact absurd q2 hb0
      | cons t st =>
        obtain ⟨a, v⟩ := t
        rcases q2 with ⟨k1, ⟨o, k2, k3⟩, k4, k5, k6⟩ | ⟨k1, M, k2, k3, k4, k5, k6, k7, k8⟩
        · have ee : endB i ((a, v) :: st) = (a + 1, st) := if_pos k1
          rw [ee]
          have hcs : calls ((a, v) :: st) = 1 + calls st := by
            show (if v = -1 then 1 else 0) + calls st = _
            rw [if_pos k1]
          rw [hcs] at q3
          refine ⟨⟨k5, by show SI K n st (br K (a + 1)); rw [br_no (by rw [k4]; decide) (by rw [k4]; decide) (by rw [k4]; decide)]; exact k6, by show calls st ≤ 8; omega, q4⟩, MonB.rfl9, fun _ => ?_⟩
          unfold PSI
          rw [if_pos (show i < n ∧ (K i = 6 ∨ K i = 8) from ⟨hi, Or.inr e8⟩), hcs]
          have p4 := h15 (a + 1)
          show (600 - cC s) * 136 + (if a + 1 < n ∧ (K (a + 1) = 6 ∨ K (a + 1) = 8) then 15 * calls st + (pc K n - pc K (a + 1)) else 0) < _
          split <;> omega
        · have hcs : calls ((a, v) :: st) = calls st := by
            show (if v = -1 then 1 else 0) + calls st = _
            rw [if_neg k1, Nat.zero_add]
          rw [hcs] at q3
          have hM : M = br K a := br_suf i [] a M k2
          by_cases e1 : v - 1 ≤ 0
          · have ee : endB i ((a, v) :: st) = (i + 1, st) := (if_neg k1).trans (if_pos e1)
            rw [ee]
            refine ⟨⟨hi, by show SI K n st (br K (i + 1)); rw [br_end e8, k2]; exact k8, q3, q4⟩, MonB.rfl9, fun _ => ?_⟩
            unfold PSI
            rw [if_pos (show i < n ∧ (K i = 6 ∨ K i = 8) from ⟨hi, Or.inr e8⟩), hcs]
            show (600 - cC s) * 136 + (if i + 1 < n ∧ (K (i + 1) = 6 ∨ K (i + 1) = 8) then 15 * calls st + (pc K n - pc K (i + 1)) else 0) < _
            split <;> omega
          · have ee : endB i ((a, v) :: st) = (a + 1, (a, v - 1) :: st) := (if_neg k1).trans (if_neg e1)
            rw [ee]
            have hv1 : v - 1 ≠ -1 := fun q => e1 (by rw [q]; decide)
            have hcs1 : calls ((a, v - 1) :: st) = calls st := by
              show (if v - 1 = -1 then 1 else 0) + calls st = _
              rw [if_neg hv1, Nat.zero_add]
            have hle : v - 1 ≤ 999 := by
              obtain ⟨j, hj, rfl⟩ := nI_of2 (M := 999) (n := 999) rfl (fun q => Int32.lt_irrefl (Int32.lt_trans q k6)) k7
              cases j with
              | zero => exact absurd k6 (by decide)
              | succ j =>
                rw [nI_pred]
                exact (nI_leI (by omega) (by decide : 999 < 2 ^ 31)).mpr (by omega)
            have hn6 : K (a + 1) ≠ 6 := fun q => by
              have := (hP.2.1 (a + 1) k4).2 q
              rw [br_op (Or.inl k3)] at this
              cases this
            refine ⟨⟨by show a + 1 ≤ n; omega, ?_, by show calls ((a, v - 1) :: st) ≤ 8; rw [hcs1]; exact q3, q4⟩, MonB.rfl9, fun _ => ?_⟩
            · show SI K n ((a, v - 1) :: st) (br K (a + 1))
              rw [br_op (Or.inl k3)]
              exact Or.inr ⟨hv1, br K a, rfl, k3, k4, k5, Int32.not_le.mp e1, hle, by rw [← hM]; exact k8⟩
            · unfold PSI
              rw [if_pos (show i < n ∧ (K i = 6 ∨ K i = 8) from ⟨hi, Or.inr e8⟩), hcs]
              show (600 - cC s) * 136 + (if a + 1 < n ∧ (K (a + 1) = 6 ∨ K (a + 1) = 8) then _ else 0) < _
              rw [if_neg (show ¬ (a + 1 < n ∧ (K (a + 1) = 6 ∨ K (a + 1) = 8)) from fun q => q.2.elim hn6 k5)]
              omega
    · rw [if_neg e8]
      by_cases ec : cC s = 600
      · rw [if_pos ec]
        obtain ⟨x, y, h9, d, f, c, nm, R, U, sa⟩ := s
        exact ⟨⟨Nat.le_of_lt hi, hB.2.1, hB.2.2.1, (CI_flt hB.2.2.2).1⟩, (CI_flt hB.2.2.2).2, fun q => absurd q (show ¬ (1 : Int32) = 0 by decide)⟩
      · rw [if_neg ec]
        obtain ⟨c1, c2, c3⟩ := CI_cnt hB.2.2.2 ec
        obtain ⟨v1, v2⟩ := vl_ok (hP.2.2.2.2.2.1 i hi) (CI_nm hB.2.2.2)
        exact doB_ok hP hcl hws hi hB e6 e8 c1 c2 c3 v1 v2
