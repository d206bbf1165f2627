/-! THE CLASS's RUN: rounds left and callers are the machine's stack -/
section CST
variable {g : Nat → Nat} {K T V N : Nat → Int32} {n ms : Nat} {cl : Nat → Nat} {ws : Int32 → Option Nat} {X : Mem}
def CSt (g : Nat → Nat) (X : Mem) : Stk → Prop
  | [] => True
  | (a, v) :: st => ((v = -1 → aI X (g 4) (calls st) = nI a) ∧ (v ≠ -1 → aI X (g 3) (30 * calls st + a) = v)) ∧ CSt g X st
def CS (g : Nat → Nat) (X : Mem) (st : Stk) : Prop := mI X 705 (g 0) = nI (calls st) ∧ CSt g X st
theorem CSt.cg {X X1 : Mem} (h3 : aI X1 (g 3) = aI X (g 3)) (h4 : aI X1 (g 4) = aI X (g 4)) : ∀ {st : Stk}, CSt g X st → CSt g X1 st
  | [], _ => trivial
  | (a, v) :: st, h => ⟨⟨fun q => by rw [h4]; exact h.1.1 q, fun q => by rw [h3]; exact h.1.2 q⟩, CSt.cg h3 h4 h.2⟩
theorem calls_c {a : Nat} {v : Int32} {st : Stk} : calls ((a, v) :: st) = (if v = -1 then 1 else 0) + calls st := rfl
theorem CSt.hi (hG : RG g K T V N n cl ws X) (hn : n ≤ 30) {j : Nat} {w : Int32} : ∀ {st : Stk} {L : List Nat}, SI K n st L → 30 * calls st + 30 ≤ j → CSt g X st → CSt g (sI X (g 3) j w) st := by
  intro st
  induction st with
  | nil => intro L _ _ _; trivial
  | cons q st ih =>
    intro L hS hj hc
    obtain ⟨a, v⟩ := q
    rcases hS with ⟨k1, k2, k4, k5, k6⟩ | ⟨k1, M, k2, k3, k4, k5, k6, k7, k8⟩
    · rw [calls_c, if_pos k1] at hj
      refine ⟨⟨fun q => ?_, fun q => absurd k1 q⟩, ih k6 (by omega) hc.2⟩
      rw [aI_sI, if_neg (fun q => hG.ne 4 3 (by decide) (by decide) (by decide) q.1)]
      exact hc.1.1 q
    · rw [calls_c, if_neg k1] at hj
      refine ⟨⟨fun q => absurd q k1, fun q => ?_⟩, ih k8 (by omega) hc.2⟩
      rw [aI_sI, if_neg (fun q => by omega)]
      exact hc.1.2 q
theorem CSt.lo (hG : RG g K T V N n cl ws X) (hn : n ≤ 30) {i : Nat} {w : Int32} : ∀ {st : Stk} {L : List Nat}, SI K n st L → (∀ o ∈ L, o < i) → CSt g X st → CSt g (sI X (g 3) (30 * calls st + i) w) st := by
  intro st
  induction st with
  | nil => intro L _ _ _; trivial
  | cons q st ih =>
    intro L hS hj hc
    obtain ⟨a, v⟩ := q
    rcases hS with ⟨k1, k2, k4, k5, k6⟩ | ⟨k1, M, k2, k3, k4, k5, k6, k7, k8⟩
    · rw [calls_c, if_pos k1]
      refine ⟨⟨fun q => ?_, fun q => absurd k1 q⟩, CSt.hi hG hn k6 (by omega) hc.2⟩
      rw [aI_sI, if_neg (fun q => hG.ne 4 3 (by decide) (by decide) (by decide) q.1)]
      exact hc.1.1 q
    · rw [calls_c, if_neg k1, Nat.zero_add]
      have ha : a < i := hj a (by rw [k2]; exact List.mem_cons_self)
      refine ⟨⟨fun q => absurd q k1, fun q => ?_⟩, ih k8 (fun o ho => hj o (by rw [k2]; exact List.mem_cons_of_mem _ ho)) hc.2⟩
      rw [aI_sI, if_neg (fun q => by omega)]
      exact hc.1.2 q
theorem CSt.ca (hG : RG g K T V N n cl ws X) {j : Nat} {w : Int32} : ∀ {st : Stk}, calls st ≤ j → CSt g X st → CSt g (sI X (g 4) j w) st := by
  intro st
  induction st with
  | nil => intro _ _; trivial
  | cons q st ih =>
    intro hj hc
    obtain ⟨a, v⟩ := q
    rw [calls_c] at hj
    refine ⟨⟨fun q => ?_, fun q => ?_⟩, ih (by omega) hc.2⟩
    · rw [if_pos q] at hj
      rw [aI_sI, if_neg (fun q => by omega)]
      exact hc.1.1 q
    · rw [aI_sI, if_neg (fun q => hG.ne 3 4 (by decide) (by decide) (by decide) q.1)]
      exact hc.1.2 q
theorem q_slot {c i : Nat} : nI c * (30 : Int32) + nI i = nI (30 * c + i) := by
  rw [show (30 : Int32) = nI 30 from rfl, pk_mul, nI_add, Nat.mul_comm]
theorem CQ.keep {X : Mem} {s : Cor} {X1 : Mem} (hm : ∀ k, k ≠ 705 → mI X1 k = mI X k) (h2 : aI X1 (g 2) = aI X (g 2)) (h6 : aI X1 (g 6) = aI X (g 6)) (h7 : aI X1 (g 7) = aI X (g 7)) (h : CQ g ms X s) : CQ g ms X1 s := by
  obtain ⟨x, y, h9, d, f, c, nm, R, U, sa⟩ := s
  obtain ⟨q1, q2, q3, q4, q5, q6, q7, q8, q9, q10, q11, q12⟩ := h
  refine ⟨by rw [hm 800 (by omega)]; exact q1, by rw [hm 801 (by omega)]; exact q2, by rw [hm 802 (by omega)]; exact q3, by rw [hm 803 (by omega)]; exact q4, by rw [hm 708 (by omega)]; exact q5, by rw [hm 707 (by omega)]; exact q6, by rw [hm 706 (by omega)]; exact q7, by rw [h2]; exact q8, by rw [h6]; exact q9, by rw [h7]; exact q10, by rw [hm 202 (by omega)]; exact q11, ?_⟩
  rw [hm 203 (by omega), hm 204 (by omega), hm 205 (by omega), hm 206 (by omega)]
  exact q12
theorem aI_o {X : Mem} {a b i : Nat} {v : Int32} (h : b ≠ a) : aI (sI X a i v) b = aI X b := funext fun _ => if_neg (fun q => h q.1)
theorem c_repeat {i : Nat} {v : Int32} {st : Stk} {s : Cor} (hG : RG g K T V N n cl ws X) (hP : VP K T V N n) (hcl : ClOK K n cl) (hi : i < n) (h5 : K i = 5) (hQ : CQ g ms X s) (hS : CS g X st) (hB : SI K n st (br K i)) (hcs : calls st ≤ 8) :
    ∃ X', fX7_beginRepeat X (g 0) (some (g 8)) (nI i) v = some (nI (if v ≤ 0 ∨ cl i = i + 1 then cl i + 1 else i + 1), X') ∧ FR g X X' ∧ CQ g ms X' s ∧ CS g X' (if v ≤ 0 ∨ cl i = i + 1 then st else (i, v) :: st) := by
  have hn := hP.1
  have hC := hcl i hi (Or.inl h5)
  have hcn := hC.2.1
  unfold fX7_beginRepeat fX7_beginRepeat_L30
  rw [bi_some, if_pos hG.k8, c_partner hG hn hi, bi_some, if_pos hG.k0, (hG.p.1 i hi (Or.inl h5)).1, hS.1, q_slot, nI_1]
  have e35 : fX7_beginRepeat_L35 X (g 0) (nI i) v (nI (cl i)) (nI (30 * calls st + i)) 1 = some (nI (cl i + 1), X) := by
    unfold fX7_beginRepeat_L35
    rw [if_neg (by decide), nI_1]
  by_cases e1 : v ≤ 0
  · rw [if_pos e1, e35, if_pos (Or.inl e1), if_pos (Or.inl e1)]
    exact ⟨X, rfl, FR.rfl9, hQ, hS⟩
  · rw [if_neg e1]
    by_cases e2 : cl i = i + 1
    · rw [if_pos (by rw [e2]), e35, if_pos (Or.inr e2), if_pos (Or.inr e2)]
      exact ⟨X, rfl, FR.rfl9, hQ, hS⟩
    · have e3 : ¬ (v ≤ 0 ∨ cl i = i + 1) := fun q => q.elim e1 e2
      rw [if_neg (fun q => e2 ((nI_eq (by omega) (by omega)).mp q)), if_neg e3, if_neg e3]
      unfold fX7_beginRepeat_L35
      have hlt : 30 * calls st + i < 270 := by omega
      rw [if_pos rfl, if_neg (nI_pos (by omega)), if_pos hG.k0, hG.r702, bi_some, alen_of hG.k3 (by decide), bi_some, if_pos ((nI_ltI (by omega) (by omega)).mpr hlt), bi_some, if_pos (inb_of (t := 0) hG.k3 hlt (by omega)), nI_clamp (by omega), nI_1]
      have hv : v ≠ -1 := fun q => e1 (by rw [q]; decide)
      refine ⟨_, rfl, FR.sI (Or.inr (Or.inl rfl)), hQ.keep (X := X) (fun _ _ => rfl) (aI_o (hG.ne 2 3 (by decide) (by decide) (by decide))) (aI_o (hG.ne 6 3 (by decide) (by decide) (by decide))) (aI_o (hG.ne 7 3 (by decide) (by decide) (by decide))), ?_, ⟨fun q => absurd q hv, fun _ => ?_⟩, CSt.lo hG hn hB (fun o ho => (br_lt i o ho).1) hS.2⟩
      · rw [mI_sI, calls_c, if_neg hv, Nat.zero_add]
        exact hS.1
      · rw [aI_sI, if_pos ⟨rfl, rfl⟩]
theorem c_enter {i : Nat} {st : Stk} {s : Cor} (hG : RG g K T V N n cl (wsF K T n) X) (hP : VP K T V N n) (hi : i < n) (hQ : CQ g ms X s) (hS : CS g X st) (hcs : calls st ≤ 8) :
    ∃ r X', fX7_enterWord X (g 0) (some (g 8)) (nI i) (T i) = some (r, X') ∧ FR g X X' ∧ (match wsF K T n (T i) with
      | none => r = -1 ∧ CQ g ms X' (fltB 5 s)
      | some w => if calls st = 8 then r = -1 ∧ CQ g ms X' (fltB 4 s) else r = nI (w + 1) ∧ CQ g ms X' s ∧ CS g X' ((i, -1) :: st)) := by
  have hn := hP.1
  obtain ⟨tj, htj, et⟩ := t_lt4 (hP.2.2.2.2.1 i hi).1 (hP.2.2.2.2.1 i hi).2
  have hw := (wsF_ok hP).1 (T i)
  unfold fX7_enterWord fX7_enterWord_L39
  rw [bi_some, if_pos hG.k8, et, c_start hG htj, bi_some, ← et]
  by_cases e1 : oW (wsF K T n (T i)) = -1
  · rw [if_pos e1, if_pos hG.k0]
    have e2 := (oW_none hP.1 (fun w h => (hw w h).1)).mp e1
    rw [e2]
    exact ⟨_, _, rfl, FR.wI (by omega), rfl, hQ.flt⟩
  · rw [if_neg e1, if_pos hG.k0]
    obtain ⟨w, ew⟩ : ∃ w, wsF K T n (T i) = some w := by
      cases e9 : wsF K T n (T i) with
      | none => exact absurd (by rw [e9]; rfl) e1
      | some w => exact ⟨w, rfl⟩
    rw [ew, hS.1, if_neg (nI_pos (by omega)), hG.r703, bi_some, alen_of hG.k4 (by decide), bi_some, bi_some]
    show ∃ r X', _ ∧ FR g X X' ∧ (if calls st = 8 then _ else _)
    by_cases e8 : calls st = 8
    · simp only [if_pos e8]
      rw [if_neg (fun q => by have := (nI_ltI (by omega) (by omega)).mp q; omega), if_pos hG.k0]
      exact ⟨_, _, rfl, FR.wI (by omega), rfl, hQ.flt⟩
    · simp only [if_neg e8]
      have hlt : calls st < 8 := by omega
      rw [if_pos ((nI_ltI (by omega) (by omega)).mpr hlt), if_pos (inb_of (t := 0) hG.k4 hlt (by omega)), nI_clamp (by omega), mI_sI, hS.1, nI_1, show oW (some w) + 1 = nI (w + 1) from nI_1 w]
      have fr : FR g X (wI (sI X (g 4) (calls st) (nI i)) 705 (g 0) (nI (calls st + 1))) := (FR.sI (Or.inr (Or.inr (Or.inl rfl)))).trans (FR.wI (by omega))
      refine ⟨_, _, rfl, fr, rfl, hQ.keep (X := X) (fun k hk => funext fun z => if_neg (fun q => hk q.1)) ((funext fun _ => aI_wI).trans (aI_o (hG.ne 2 4 (by decide) (by decide) (by decide)))) ((funext fun _ => aI_wI).trans (aI_o (hG.ne 6 4 (by decide) (by decide) (by decide)))) ((funext fun _ => aI_wI).trans (aI_o (hG.ne 7 4 (by decide) (by decide) (by decide)))), ?_, ⟨fun _ => ?_, fun q => absurd rfl q⟩, ?_⟩
      · rw [mI_wI, if_pos ⟨rfl, rfl⟩, calls_c, if_pos rfl, Nat.add_comm]
      · rw [aI_wI, aI_sI, if_pos ⟨rfl, rfl⟩]
      · exact CSt.cg (funext fun _ => aI_wI) (funext fun _ => aI_wI) (CSt.ca hG (Nat.le_refl _) hS.2)
theorem c_close {i : Nat} {st : Stk} {s : Cor} (hG : RG g K T V N n cl ws X) (hP : VP K T V N n) (hcl : ClOK K n cl) (hi : i < n) (h8 : K i = 8) (hQ : CQ g ms X s) (hS : CS g X st) (hB : SI K n st (br K i)) (hcs : calls st ≤ 8) :
    ∃ X', fX7_closeBlock X (g 0) (some (g 8)) (nI i) = some (nI (endB i st).1, X') ∧ FR g X X' ∧ CQ g ms X' s ∧ CS g X' (endB i st).2 := by
  have hn := hP.1
  have hb0 := (hP.2.1 i hi).1 h8
  cases hb : br K i with
  | nil => exact absurd hb hb0
  | cons o M =>
    have hC9 := cl_of hP.2.2.1 hi h8 hb
    have ho := br_lt i o (by rw [hb]; exact List.mem_cons_self)
    have hon : o < n := Nat.lt_trans ho.1 hi
    have eci : cl o = i := cl_un (hcl o hon ho.2) hC9
    have ep : aI X (g 10) i = nI o := by
      have := (hG.p.1 o hon ho.2).2
      rw [eci] at this
      exact this
    obtain ⟨o1, o2, o3, o4, o5, o6⟩ := hG.o o hon
    unfold fX7_closeBlock
    rw [bi_some, if_pos hG.k8, c_partner hG hn hi, bi_some, ep, c_orderAt hG hn hon, bi_some, if_neg (by exact fun q => nomatch q), bi_some, if_pos o2, o3]
    rw [hb] at hB
    cases st with
    | nil => exact absurd hB (fun q => nomatch q)
    | cons t st =>
      obtain ⟨a, v⟩ := t
      rcases hB with ⟨k1, ⟨o', k2, k3⟩, k4, k5, k6⟩ | ⟨k1, M', k2, k3, k4, k5, k6, k7, k8⟩
      · have eo : o = o' := (List.cons.inj k2).1
        rw [← eo] at k3
        have hc1 : calls ((a, v) :: st) = calls st + 1 := by rw [calls_c, if_pos k1, Nat.add_comm]
        rw [hc1] at hcs
        have h705 : mI X 705 (g 0) = nI (calls st + 1) := by rw [hS.1, hc1]
        have ee : endB i ((a, v) :: st) = (a + 1, st) := by rw [endB_cons, if_pos k1]
        rw [if_pos k3, if_pos hG.k0, ee]
        unfold fX7_leaveWord
        have hlt : calls st < 8 := by omega
        rw [if_pos hG.k0, h705, nI_pred, if_neg (nI_pos (by omega)), hG.r703, bi_some, alen_of hG.k4 (by decide), bi_some, if_pos ((nI_ltI (by omega) (by omega)).mpr hlt), mR_wI, hG.r703, bi_some, if_pos (inb_of (t := 0) (by rw [mK_wI]; exact hG.k4) hlt (by omega)), nI_clamp (by omega), bW_some, aI_wI, hS.2.1.1 k1, nI_1]
        exact ⟨_, rfl, FR.wI (by omega), hQ.keep (X := X) (fun k hk => funext fun z => if_neg (fun q => hk q.1)) (funext fun _ => aI_wI) (funext fun _ => aI_wI) (funext fun _ => aI_wI), by rw [mI_wI, if_pos ⟨rfl, rfl⟩], CSt.cg (funext fun _ => aI_wI) (funext fun _ => aI_wI) hS.2.2⟩
      · have eo : o = a := (List.cons.inj k2).1
        have eM : M = M' := (List.cons.inj k2).2
        have hc1 : calls ((a, v) :: st) = calls st := by rw [calls_c, if_neg k1, Nat.zero_add]
        rw [hc1] at hcs
        have h705 : mI X 705 (g 0) = nI (calls st) := by rw [hS.1, hc1]
        have hrl : aI X (g 3) (30 * calls st + a) = v := hS.2.1.2 k1
        have hlt : 30 * calls st + a < 270 := by omega
        rw [eo, if_neg (by rw [k3]; decide)]
        unfold fX7_closeBlock_L33
        have hM : M' = br K a := by
          rw [← eM]
          have := br_suf i [] o M hb
          rw [this, eo]
        have aS : aI (sI X (g 3) (30 * calls st + a) (v - 1)) (g 3) (30 * calls st + a) = v - 1 := by rw [aI_sI, if_pos ⟨rfl, rfl⟩]
        rw [if_pos hG.k0, h705, q_slot, if_neg (nI_pos (by omega)), hG.r702, bi_some, alen_of hG.k3 (by decide), bi_some, if_pos ((nI_ltI (by omega) (by omega)).mpr hlt), bi_some, if_pos (inb_of (t := 0) hG.k3 hlt (by omega)), if_pos (inb_of (t := 0) hG.k3 hlt (by omega)), nI_clamp (by omega), hrl, mR_sI, hG.r702, bi_some, if_pos (inb_of (t := 0) (by rw [mK_sI]; exact hG.k3) hlt (by omega)), aS]
        have fr : FR g X (sI X (g 3) (30 * calls st + a) (v - 1)) := FR.sI (Or.inr (Or.inl rfl))
        have cq : CQ g ms (sI X (g 3) (30 * calls st + a) (v - 1)) s := hQ.keep (X := X) (fun _ _ => rfl) (aI_o (hG.ne 2 3 (by decide) (by decide) (by decide))) (aI_o (hG.ne 6 3 (by decide) (by decide) (by decide))) (aI_o (hG.ne 7 3 (by decide) (by decide) (by decide)))
        have cst : CSt g (sI X (g 3) (30 * calls st + a) (v - 1)) st := CSt.lo hG hn k8 (fun o ho => by rw [hM] at ho; exact (br_lt a o ho).1) hS.2.2
        by_cases e1 : v - 1 ≤ 0
        · have ee : endB i ((a, v) :: st) = (i + 1, st) := by rw [endB_cons, if_neg k1, if_pos e1]
          rw [if_pos e1, ee, nI_1]
          exact ⟨_, rfl, fr, cq, by rw [mI_sI]; exact h705, cst⟩
        · have ee : endB i ((a, v) :: st) = (a + 1, (a, v - 1) :: st) := by rw [endB_cons, if_neg k1, if_neg e1]
          rw [if_neg e1, ee, nI_1]
          have e3 : v - 1 ≠ -1 := fun q => e1 (by rw [q]; decide)
          exact ⟨_, rfl, fr, cq, by rw [mI_sI, h705, calls_c, if_neg e3, Nat.zero_add], ⟨fun q => absurd q e3, fun _ => aS⟩, cst⟩
end CST
