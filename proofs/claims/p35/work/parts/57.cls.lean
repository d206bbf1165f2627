/-! one look of the class is one step of the machine -/
section CFO
variable {g : Nat → Nat} {K T V N : Nat → Int32} {n ms : Nat} {cl : Nat → Nat} {ws : Int32 → Option Nat}
theorem CQ.cnt {X : Mem} {s : Cor} (h : CQ g ms X s) : CQ g ms (wI X 707 (g 0) (nI (cC s) + 1)) (cntB s) := by
  obtain ⟨x, y, h9, d, f, c, nm, R, U, sa⟩ := s
  obtain ⟨q1, q2, q3, q4, q5, q6, q7, q8, q9, q10, q11, q12⟩ := h
  show CQ g ms (wI X 707 (g 0) (nI c + 1)) _
  have m : ∀ j, j ≠ 707 → mI (wI X 707 (g 0) (nI c + 1)) j = mI X j := fun j hj => funext fun z => if_neg (fun q => hj q.1)
  have sa1 : up1 sa (c + 1) (sa c) (c + 1) = sa c := if_pos rfl
  refine ⟨by rw [m 800 (by omega)]; exact q1, by rw [m 801 (by omega)]; exact q2, by rw [m 802 (by omega)]; exact q3, by rw [m 803 (by omega)]; exact q4, by rw [m 708 (by omega)]; exact q5, by rw [mI_wI, if_pos ⟨rfl, rfl⟩, nI_1], by rw [m 706 (by omega)]; exact q7, q8, q9, q10, by rw [m 202 (by omega), sa1]; exact q11, ?_⟩
  rw [m 203 (by omega), m 204 (by omega), m 205 (by omega), m 206 (by omega), sa1]
  exact q12.mono (Nat.le_succ c)
theorem CQ.trn {X : Mem} {s : Cor} {v w : Int32} (hw : mI X 802 (g 1) = w) (h : CQ g ms X s) : CQ g ms (wI X 802 (g 1) (hdB w v)) (trnB v s) := by
  obtain ⟨x, y, h9, d, f, c, nm, R, U, sa⟩ := s
  obtain ⟨q1, q2, q3, q4, q5, q6, q7, q8, q9, q10, q11, q12⟩ := h
  have m : ∀ j, j ≠ 802 → mI (wI X 802 (g 1) (hdB w v)) j = mI X j := fun j hj => funext fun z => if_neg (fun q => hj q.1)
  refine ⟨by rw [m 800 (by omega)]; exact q1, by rw [m 801 (by omega)]; exact q2, by rw [mI_wI, if_pos ⟨rfl, rfl⟩, ← hw, q3], by rw [m 803 (by omega)]; exact q4, by rw [m 708 (by omega)]; exact q5, by rw [m 707 (by omega)]; exact q6, by rw [m 706 (by omega)]; exact q7, q8, q9, q10, by rw [m 202 (by omega)]; exact q11, ?_⟩
  rw [m 203 (by omega), m 204 (by omega), m 205 (by omega), m 206 (by omega)]
  exact q12
theorem CQ.pen {X : Mem} {s : Cor} {v b : Int32} (hb : (if v = 1 then 1 else 0 : Int32) = b) (h : CQ g ms X s) : CQ g ms (wI X 803 (g 1) b) (penB v s) := by
  obtain ⟨x, y, h9, d, f, c, nm, R, U, sa⟩ := s
  obtain ⟨q1, q2, q3, q4, q5, q6, q7, q8, q9, q10, q11, q12⟩ := h
  have m : ∀ j, j ≠ 803 → mI (wI X 803 (g 1) b) j = mI X j := fun j hj => funext fun z => if_neg (fun q => hj q.1)
  refine ⟨by rw [m 800 (by omega)]; exact q1, by rw [m 801 (by omega)]; exact q2, by rw [m 802 (by omega)]; exact q3, by rw [mI_wI, if_pos ⟨rfl, rfl⟩, hb], by rw [m 708 (by omega)]; exact q5, by rw [m 707 (by omega)]; exact q6, by rw [m 706 (by omega)]; exact q7, q8, q9, q10, by rw [m 202 (by omega)]; exact q11, ?_⟩
  rw [m 203 (by omega), m 204 (by omega), m 205 (by omega), m 206 (by omega)]
  exact q12
theorem CQ.nm {X : Mem} {s : Cor} {j : Nat} {v : Int32} (hG : RG g K T V N n cl ws X) (h : CQ g ms X s) (hv : -999 ≤ v ∧ v ≤ 999) (hj : j < 4) : CQ g ms (sI X (g 2) j v) (putB (nI j) v s) := by
  obtain ⟨x, y, h9, d, f, c, nm, R, U, sa⟩ := s
  obtain ⟨q1, q2, q3, q4, q5, q6, q7, q8, q9, q10, q11, q12⟩ := h
  have e : putB (nI j) v (x, y, h9, d, f, c, nm, R, U, sa) = (x, y, h9, d, f, c, up1 nm j v, R, U, sa) := by
    show (if -999 ≤ v ∧ v ≤ 999 then (x, y, h9, d, f, c, up1 nm (nI j).toNatClampNeg v, R, U, sa) else _) = _
    rw [if_pos hv, nI_clamp (by omega)]
  rw [e]
  refine ⟨q1, q2, q3, q4, q5, q6, q7, fun k hk => ?_, fun k hk => ?_, fun k hk => ?_, q11, q12⟩
  · rw [aI_sI]
    show _ = (if k = j then v else nm k)
    by_cases e1 : k = j
    · rw [if_pos ⟨rfl, e1⟩, if_pos e1]
    · rw [if_neg (fun q => e1 q.2), if_neg e1]
      exact q8 k hk
  · rw [aI_sI, if_neg (fun q => hG.ne 6 2 (by decide) (by decide) (by decide) q.1)]
    exact q9 k hk
  · rw [aI_sI, if_neg (fun q => hG.ne 7 2 (by decide) (by decide) (by decide) q.1)]
    exact q10 k hk
theorem CS.wI {X : Mem} {k a : Nat} {v : Int32} {st : Stk} (hk : k ≠ 705) (h : CS g X st) : CS g (wI X k a v) st := ⟨by rw [mI_wI, if_neg (fun q => hk q.1.symm)]; exact h.1, CSt.cg (funext fun _ => aI_wI) (funext fun _ => aI_wI) h.2⟩
theorem CS.fr {X X1 : Mem} {st : Stk} (h5 : mI X1 705 (g 0) = mI X 705 (g 0)) (h3 : aI X1 (g 3) = aI X (g 3)) (h4 : aI X1 (g 4) = aI X (g 4)) (h : CS g X st) : CS g X1 st := ⟨h5.trans h.1, h.2.cg h3 h4⟩
theorem c_value {X : Mem} {i : Nat} {s : Cor} (hG : RG g K T V N n cl ws X) (hP : VP K T V N n) (hi : i < n) (hQ : CQ g ms X s) : fX7_valueOf X (g 0) (some (g (20 + i))) = some (vlB V N (cNm s) i) := by
  obtain ⟨o1, o2, o3, o4, o5, o6⟩ := hG.o i hi
  unfold fX7_valueOf vlB
  rw [bi_some, if_pos o2, o6, o5]
  rcases hP.2.2.2.2.2.1 i hi with ⟨e, a, b⟩ | ⟨e, a, b⟩
  · rw [if_pos e, if_pos e]
  · obtain ⟨vj, hvj, ev⟩ := t_lt4 a b
    have en : ¬ N i = 0 := by rw [e]; decide
    rw [if_neg en, if_neg en, if_pos hG.k0, ev, c_nameAt hG hvj, bi_some, nI_clamp (by omega), hQ.cs.2.2.2.2 vj hvj]
end CFO
