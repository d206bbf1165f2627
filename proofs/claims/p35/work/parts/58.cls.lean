/-! a look -/
section CLK
variable {g : Nat → Nat} {K T V N : Nat → Int32} {n ms : Nat} {cl : Nat → Nat}
def OutF (g : Nat → Nat) (ms : Nat) (X : Mem) (r : Int32) (R : Nat × Stk × Cor) : Prop := (r = nI R.1 ∧ CQ g ms X R.2.2 ∧ CS g X R.2.1 ∧ cF R.2.2 = 0 ∧ cC R.2.2 ≤ ms) ∨ (r = -1 ∧ CQ g ms X R.2.2 ∧ cF R.2.2 ≠ 0 ∧ cC R.2.2 ≤ ms) ∨ (r = -1 ∧ Stop g ms X R.2.2)
theorem k7_of {k : Int32} (hk : 0 ≤ k ∧ k ≤ 8) (e0 : k ≠ 0) (e1 : k ≠ 1) (e2 : k ≠ 2) (e3 : k ≠ 3) (e4 : k ≠ 4) (e5 : k ≠ 5) (h6 : k ≠ 6) (h8 : k ≠ 8) : k = 7 := by
  obtain ⟨j, hj, e⟩ := nI_of2 (M := 8) (n := 8) rfl (fun q => Int32.lt_irrefl (Int32.lt_of_lt_of_le q hk.1)) hk.2
  subst e
  have key : ∀ j, j < 9 → (nI j = 7 ∨ nI j = 0 ∨ nI j = 1 ∨ nI j = 2 ∨ nI j = 3 ∨ nI j = 4 ∨ nI j = 5 ∨ nI j = 6 ∨ nI j = 8) := by decide +kernel
  rcases key j (by omega) with q | q | q | q | q | q | q | q | q
  · exact q
  · exact absurd q e0
  · exact absurd q e1
  · exact absurd q e2
  · exact absurd q e3
  · exact absurd q e4
  · exact absurd q e5
  · exact absurd q h6
  · exact absurd q h8
theorem CS.fg {X X1 : Mem} {st : Stk} (h : CS g X st) (k : FG g X X1) : CS g X1 st := h.fr k.2.2.2 k.2.1 k.2.2.1
theorem c_follow {fu i : Nat} {X : Mem} {s : Cor} {st : Stk} (hP : VP K T V N n) (hcl : ClOK K n cl) (hms : ms ≤ 600) (hfu : 2000 ≤ fu) (hi : i < n) (hG : RG g K T V N n cl (wsF K T n) X) (hB : BI K n i st s) (hQ : CQ g ms X s) (hS : CS g X st) (hf : cF s = 0) (hc : cC s ≤ ms) :
    ∃ r X', fX7_follow fu X (g 0) (some (g 8)) (nI i) = some (r, X') ∧ FR g X X' ∧ OutF g ms X' r (stB K T V N cl (wsF K T n) i st s) := by
  have hn := hP.1
  have hok := stB_ok hP hcl (wsF_ok hP) hi hB
  obtain ⟨o1, o2, o3, o4, o5, o6⟩ := hG.o i hi
  unfold fX7_follow
  rw [bi_some, if_pos hG.k8, c_orderAt hG hn hi, bi_some, if_neg (by exact fun q => nomatch q), bi_some, if_pos o2, o3]
  by_cases e6 : K i = 6
  · rw [if_pos e6, c_partner hG hn hi, bi_some, (hG.p.1 i hi (Or.inr e6)).1, nI_1]
    have es : stB K T V N cl (wsF K T n) i st s = (cl i + 1, st, s) := if_pos e6
    rw [es]
    exact ⟨_, _, rfl, FR.rfl9, Or.inl ⟨rfl, hQ, hS, hf, hc⟩⟩
  · rw [if_neg e6]
    by_cases e8 : K i = 8
    · obtain ⟨X', w1, w2, w3, w4⟩ := c_close hG hP hcl hi e8 hQ hS hB.2.1 hB.2.2.1
      rw [if_pos e8, if_pos hG.k0, w1, bW_some]
      have es : stB K T V N cl (wsF K T n) i st s = ((endB i st).1, (endB i st).2, s) := (if_neg e6).trans (if_pos e8)
      rw [es]
      exact ⟨_, _, rfl, w2, Or.inl ⟨rfl, w3, w4, hf, hc⟩⟩
    · rw [if_neg e8, if_pos hG.k0, c_canCount hG hQ hms hc]
      by_cases hlt : cC s < ms
      · have ec : cC s ≠ 600 := by omega
        have es : stB K T V N cl (wsF K T n) i st s = doB K T cl (wsF K T n) i st (cntB s) (vlB V N (cNm s) i) := ((if_neg e6).trans (if_neg e8)).trans (if_neg ec)
        rw [es]
        rw [if_pos hlt, bW_some, if_neg (by decide), if_pos hG.k0, hQ.cs.2.1]
        have fr1 : FR g X (wI X 707 (g 0) (nI (cC s) + 1)) := FR.wI (by omega)
        have Q1 := hQ.cnt
        have S1 : CS g (wI X 707 (g 0) (nI (cC s) + 1)) st := hS.wI (by decide)
        have G1 := hG.fr fr1
        obtain ⟨c1, c2, c3⟩ := CI_cnt hB.2.2.2 ec
        have ef : cF (cntB s) = 0 := by
          obtain ⟨x, y, h9, d, f, c, nm, R, U, sa⟩ := s
          exact hf
        have en : cNm (cntB s) = cNm s := by
          obtain ⟨x, y, h9, d, f, c, nm, R, U, sa⟩ := s
          rfl
        generalize wI X 707 (g 0) (nI (cC s) + 1) = X1 at fr1 Q1 S1 G1 ⊢
        obtain ⟨p1, p2, p3, p4, p5, p6⟩ := G1.o i hi
        have hcm : cC (cntB s) ≤ ms := by rw [c3]; omega
        rw [c_value G1 hP hi Q1, en, bi_some, if_pos p2, p3, p4]
        obtain ⟨v1, v2⟩ := vl_ok (hP.2.2.2.2.2.1 i hi) (CI_nm hB.2.2.2)
        obtain ⟨tj, htj, et⟩ := t_lt4 (hP.2.2.2.2.1 i hi).1 (hP.2.2.2.2.1 i hi).2
        have hok2 := doB_ok hP hcl (wsF_ok hP) hi hB e6 e8 c1 c2 c3 v1 v2
        generalize vlB V N (cNm s) i = v at v1 v2 hok2 ⊢
        have nxt : ∀ X2 s2, FR g X1 X2 → CQ g ms X2 s2 → CS g X2 st → cF s2 = 0 → cC s2 ≤ ms → ∃ r X', (some (nI i + 1, X2) : Option (Int32 × Mem)) = some (r, X') ∧ FR g X X' ∧ OutF g ms X' r (i + 1, st, s2) := fun X2 s2 a1 a2 a3 a4 a5 => ⟨_, _, rfl, fr1.trans a1, Or.inl ⟨nI_1 i, a2, a3, a4, a5⟩⟩
        have brk : ∀ X2 s2 j st2, FR g X1 X2 → CQ g ms X2 s2 → cF s2 ≠ 0 → cC s2 ≤ ms → ∃ r X', (some (-1, X2) : Option (Int32 × Mem)) = some (r, X') ∧ FR g X X' ∧ OutF g ms X' r (j, st2, s2) := fun X2 s2 j st2 a1 a2 a3 a4 => ⟨_, _, rfl, fr1.trans a1, Or.inr (Or.inl ⟨rfl, a2, a3, a4⟩)⟩
        have put : ∀ w : Int32, ∃ r X', (bW (fX7_putName X1 (g 0) (T i) w) fun v179 X179 => (if v179 = 0 then (some ((-1), X179)) else (some ((nI i + (1 : Int32)), X179)))) = some (r, X') ∧ FR g X X' ∧ OutF g ms X' r (i + 1, st, putB (T i) w (cntB s)) := by
          intro w
          rw [et, c_putName G1 htj]
          by_cases hv : -999 ≤ w ∧ w ≤ 999
          · rw [if_pos hv, bW_some, if_neg (by decide)]
            refine nxt _ _ (FR.sI (Or.inl rfl)) (Q1.nm G1 hv htj) (S1.fg (FG.sI G1 (Or.inl rfl))) ?_ ?_
            · obtain ⟨x, y, h9, d, f, c, nm, R, U, sa⟩ := s
              show cF (if -999 ≤ w ∧ w ≤ 999 then _ else _) = 0
              rw [if_pos hv]
              exact hf
            · obtain ⟨x, y, h9, d, f, c, nm, R, U, sa⟩ := s
              show cC (if -999 ≤ w ∧ w ≤ 999 then _ else _) ≤ ms
              rw [if_pos hv]
              exact hcm
          · rw [if_neg hv, bW_some, if_pos rfl]
            have e3 : putB (nI tj) w (cntB s) = fltB 3 (cntB s) := by
              obtain ⟨x, y, h9, d, f, c, nm, R, U, sa⟩ := s
              exact if_neg hv
            rw [e3]
            exact brk _ _ _ _ (FR.wI (by omega)) Q1.flt (by rw [cF_flt]; decide) (by rw [cC_flt]; exact hcm)
        unfold doB at hok2 ⊢
        by_cases k0 : K i = 0
        · simp only [if_pos k0] at hok2 ⊢
          unfold fX7_goForward
          by_cases ev : 0 ≤ v
          · rw [if_pos ev, if_neg (Int32.not_lt.mpr ev)]
            obtain ⟨j, hj, rfl⟩ := nI_of2 (M := 999) (n := 999) rfl (fun q => Int32.lt_irrefl (Int32.lt_of_lt_of_le q ev)) v2
            rw [nI_clamp (by omega)]
            obtain ⟨r, X2, w1, w2, w3⟩ := c_fw (fu := fu) (v := j) hms (by omega) j 0 (fu - j - 1) X1 (cntB s) (by omega) G1 c1 ef hcm Q1
            rw [show fu - j - 1 + j + 1 = fu by omega] at w1
            rw [show fX7_goForward_L13 fu fu X1 (g 0) (nI j) 0 = some (r, X2) from w1, bW_some]
            rcases w3 with ⟨rfl, a2, a3, a4⟩ | ⟨rfl, a2, a3, a4⟩ | ⟨rfl, a2⟩
            · rw [if_neg (by decide)]
              exact nxt _ _ w2.1 a2 (S1.fg w2) a3 a4
            · rw [if_pos rfl]
              exact brk _ _ _ _ w2.1 a2 a3 a4
            · rw [if_pos rfl]
              exact ⟨_, _, rfl, fr1.trans w2.1, Or.inr (Or.inr ⟨rfl, a2⟩)⟩
          · rw [if_neg ev, if_pos (Int32.not_le.mp ev), if_pos G1.k0, bW_some, if_pos rfl]
            exact brk _ _ _ _ (FR.wI (by omega)) Q1.flt (by rw [cF_flt]; decide) (by rw [cC_flt]; exact hcm)
        · simp only [if_neg k0] at hok2 ⊢
          by_cases k1 : K i = 1
          · simp only [if_pos k1]
            have h3 : mI X1 802 (g 1) = 0 ∨ mI X1 802 (g 1) = 1 ∨ mI X1 802 (g 1) = 2 ∨ mI X1 802 (g 1) = 3 := by
              obtain ⟨x, y, h9, d, f, c, nm, R, U, sa⟩ := s
              rw [Q1.2.2.1]
              exact c1.2.2.1
            rw [G1.r700, bi_some, if_pos G1.k1, c_turn G1.k1 h3 v1 v2, bi_some]
            refine nxt _ _ (FR.wI (by omega)) (Q1.trn rfl) (S1.wI (by decide)) ?_ ?_
            · obtain ⟨x, y, h9, d, f, c, nm, R, U, sa⟩ := s
              exact hf
            · obtain ⟨x, y, h9, d, f, c, nm, R, U, sa⟩ := s
              exact hcm
          · simp only [if_neg k1]
            by_cases k2 : K i = 2
            · simp only [if_pos k2]
              have pn : ∀ b : Int32, (b = 0 ∨ b = 1) → (if v = 1 then (1 : Int32) else 0) = b → ∃ r X', fX7_follow_L165 fu X1 (nI i) (mR X1 700 (g 0)) b = some (r, X') ∧ FR g X X' ∧ OutF g ms X' r (i + 1, st, penB v (cntB s)) := by
                intro b hb eb
                unfold fX7_follow_L165 fX8_putPen
                rw [G1.r700, bi_some, if_pos G1.k1, if_pos G1.k1, if_pos hb, bi_some]
                refine nxt _ _ (FR.wI (by omega)) (Q1.pen eb) (S1.wI (by decide)) ?_ ?_
                · obtain ⟨x, y, h9, d, f, c, nm, R, U, sa⟩ := s
                  exact hf
                · obtain ⟨x, y, h9, d, f, c, nm, R, U, sa⟩ := s
                  exact hcm
              by_cases ev : v = 1
              · rw [if_pos ev]
                exact pn 1 (Or.inr rfl) (if_pos ev)
              · rw [if_neg ev]
                exact pn 0 (Or.inl rfl) (if_neg ev)
            · simp only [if_neg k2]
              by_cases k3 : K i = 3
              · simp only [if_pos k3]
                exact put v
              · simp only [if_neg k3]
                by_cases k4 : K i = 4
                · simp only [if_pos k4]
                  have en4 : fX7_nameAt X1 (g 0) (T i) = some (cNm (cntB s) (T i).toNatClampNeg) := by
                    rw [et, c_nameAt G1 htj, nI_clamp (by omega), Q1.cs.2.2.2.2 tj htj]
                  rw [en4, bi_some]
                  exact put _
                · simp only [if_neg k4]
                  by_cases k5 : K i = 5
                  · simp only [if_pos k5] at hok2 ⊢
                    obtain ⟨X2, w1, w2, w3, w4⟩ := c_repeat (v := v) G1 hP hcl hi k5 Q1 S1 hB.2.1 hB.2.2.1
                    rw [w1, bW_some]
                    by_cases e9 : v ≤ 0 ∨ cl i = i + 1
                    · simp only [if_pos e9] at w4 ⊢
                      exact ⟨_, _, rfl, fr1.trans w2, Or.inl ⟨rfl, w3, w4, ef, hcm⟩⟩
                    · simp only [if_neg e9] at w4 ⊢
                      exact ⟨_, _, rfl, fr1.trans w2, Or.inl ⟨rfl, w3, w4, ef, hcm⟩⟩
                  · simp only [if_neg k5, if_neg e6]
                    have k7 : K i = 7 := k7_of (hP.2.2.2.1 i hi) k0 k1 k2 k3 k4 k5 e6 e8
                    rw [if_pos k7]
                    obtain ⟨r, X2, w1, w2, w3⟩ := c_enter G1 hP hi Q1 S1 hB.2.2.1
                    rw [w1, bW_some]
                    refine ⟨r, X2, rfl, fr1.trans w2, ?_⟩
                    cases hw : wsF K T n (T i) with
                    | none =>
                      rw [hw] at w3
                      exact Or.inr (Or.inl ⟨w3.1, w3.2, by rw [cF_flt]; decide, by rw [cC_flt]; exact hcm⟩)
                    | some w =>
                      rw [hw] at w3
                      by_cases e9 : calls st = 8
                      · simp only [if_pos e9] at w3 ⊢
                        exact Or.inr (Or.inl ⟨w3.1, w3.2, by rw [cF_flt]; decide, by rw [cC_flt]; exact hcm⟩)
                      · simp only [if_neg e9] at w3 ⊢
                        exact Or.inl ⟨w3.1, w3.2.1, w3.2.2, ef, hcm⟩
      · rw [if_neg hlt, bW_some, if_pos rfl]
        have hcm : cC s = ms := by omega
        refine ⟨_, _, rfl, FR.wI (by omega), ?_⟩
        by_cases h6 : ms = 600
        · have es : stB K T V N cl (wsF K T n) i st s = (i, st, fltB 1 s) := ((if_neg e6).trans (if_neg e8)).trans (if_pos (by omega))
          rw [es]
          exact Or.inr (Or.inl ⟨rfl, hQ.flt, by rw [cF_flt]; decide, by rw [cC_flt]; exact hc⟩)
        · exact Or.inr (Or.inr ⟨rfl, Stop.at9 hQ hcm (by omega) hok.2.1⟩)
end CLK
