/-! a word's block, a call, an order, a turn -/
def wsF (K T : Nat → Int32) : Nat → Int32 → Option Nat
  | 0, _ => none
  | k + 1, t => if K k = 6 ∧ T k = t then some k else wsF K T k t
def oW : Option Nat → Int32 := fun o => match o with
  | none => -1
  | some w => nI w
theorem wsF_ok {K T V N : Nat → Int32} {n : Nat} (hP : VP K T V N n) : WsOK K T n (wsF K T n) := by
  have h1 : ∀ k t w, wsF K T k t = some w → w < k ∧ K w = 6 ∧ T w = t := by
    intro k
    induction k with
    | zero => intro t w h; cases h
    | succ k ih =>
      intro t w h
      have h : (if K k = 6 ∧ T k = t then some k else wsF K T k t) = some w := h
      by_cases e : K k = 6 ∧ T k = t
      · rw [if_pos e] at h
        cases h
        exact ⟨Nat.lt_succ_self _, e⟩
      · rw [if_neg e] at h
        have := ih t w h
        exact ⟨by omega, this.2⟩
  have h2 : ∀ k, k ≤ n → ∀ w, w < k → K w = 6 → wsF K T k (T w) = some w := by
    intro k
    induction k with
    | zero => intro _ w h; exact absurd h (Nat.not_lt_zero w)
    | succ k ih =>
      intro hk w hw h6
      show (if K k = 6 ∧ T k = T w then some k else wsF K T k (T w)) = some w
      by_cases e : K k = 6 ∧ T k = T w
      · rw [if_pos e, hP.2.2.2.2.2.2 k w (by omega) (by omega) e.1 h6 e.2]
      · rw [if_neg e]
        have hne : w ≠ k := fun q => e ⟨by rw [← q]; exact h6, by rw [q]⟩
        exact ih (by omega) w (by omega) h6
  exact ⟨h1 n, fun w hw h6 => h2 n (Nat.le_refl n) w hw h6⟩
theorem q_blockOf {p n fu : Nat} {K T V N : Nat → Int32} {S : SM} {t : Int32} (hp : p < 30) (hn : n ≤ 30) (hD : PD p n K T V N S) (hfu : 32 ≤ fu) : fX12_blockOf fu S (nI p) t = some (oW (wsF K T n t)) := by
  have i5 : inS 0 5 (nI p) = true := inS_ok (by decide) rfl hp (by decide)
  have key : ∀ (j k m : Nat), k + j = n → fX12_blockOf_L5 fu S (m + j + 1) (nI p) t (oW (wsF K T k t)) (nI k) = some (oW (wsF K T n t)) := by
    intro j
    induction j with
    | zero =>
      intro k m hk
      have hk : k = n := hk
      subst hk
      show fX12_blockOf_L5b fu S (fX12_blockOf_L5 fu S m) (nI p) t _ _ = _
      unfold fX12_blockOf_L5b
      rw [if_pos i5, nI_clamp (by omega), hD.1, if_pos (Int32.le_refl _)]
    | succ j ih =>
      intro k m hk
      show fX12_blockOf_L5b fu S (fX12_blockOf_L5 fu S (m + j + 1)) (nI p) t _ _ = _
      unfold fX12_blockOf_L5b
      have nx := ih (k + 1) m (by omega)
      have hkn : k < n := by omega
      rw [if_pos i5, nI_clamp (by omega), hD.1, if_neg (fun q => by have := (nI_leI (by omega) (by omega)).mp q; omega), q_i30, if_pos (in_900 (by decide) rfl hp (by omega)), cl_900 hp (by omega), (hD.2 k hkn).1, if_pos (in_900 (by decide) rfl hp (by omega)), (hD.2 k hkn).2.1]
      unfold fX12_blockOf_L54 fX12_blockOf_L55
      rw [nI_1]
      have ew : wsF K T (k + 1) t = if K k = 6 ∧ T k = t then some k else wsF K T k t := rfl
      rw [ew] at nx
      by_cases e1 : K k = 6
      · rw [if_pos e1]
        by_cases e2 : T k = t
        · rw [if_pos e2]
          rw [if_pos ⟨e1, e2⟩] at nx
          exact nx
        · rw [if_neg e2]
          rw [if_neg (fun q => e2 q.2)] at nx
          exact nx
      · rw [if_neg e1]
        rw [if_neg (fun q => e1 q.1)] at nx
        exact nx
  unfold fX12_blockOf
  have k := key n 0 (fu - n - 1) (by omega)
  rw [show fu - n - 1 + n + 1 = fu by omega] at k
  exact k
theorem oW_none {K T : Nat → Int32} {n : Nat} {t : Int32} (hn : n ≤ 30) (h : ∀ w, wsF K T n t = some w → w < n) : oW (wsF K T n t) = -1 ↔ wsF K T n t = none := by
  cases e : wsF K T n t with
  | none => exact ⟨fun _ => rfl, fun _ => rfl⟩
  | some w =>
    have := h w e
    refine ⟨fun q => ?_, fun q => nomatch q⟩
    have q : nI w = -1 := q
    have := nI_pos' (n := w) (by omega)
    rw [q] at this
    exact absurd this (by decide)
theorem ar16 {S : SM} {d j : Nat} {a v : Int32} : ar (ua (ua S 16 d a) 17 d v) 16 j = if j = d then a else ar S 16 j := by
  rw [ar_ua, if_neg (by omega), ar_ua]
  by_cases e : j = d
  · rw [if_pos ⟨rfl, e⟩, if_pos e]
  · rw [if_neg (fun q => e q.2), if_neg e]
theorem ar17 {S : SM} {d j : Nat} {a v : Int32} : ar (ua (ua S 16 d a) 17 d v) 17 j = if j = d then v else ar S 17 j := by
  rw [ar_ua]
  by_cases e : j = d
  · rw [if_pos ⟨rfl, e⟩, if_pos e]
  · rw [if_neg (fun q => e q.2), if_neg e, ar_ua, if_neg (by omega)]
/-- a call of a word: the core's fault, or a new element of the stack -/
theorem q_callsWord {p n fu i : Nat} {K T V N : Nat → Int32} {S : SM} {s : Cor} {st : Stk} {t : Int32} (hp : p < 30) (hP : VP K T V N n) (hD : PD p n K T V N S) (hfu : 32 ≤ fu) (hQ : QC p S s) (hf : cF s = 0) (hS : QS S st) (hl : st.length < 300) (hcl : calls st ≤ 8) (hat : sc S 27 = nI i) :
    ∃ S', fX12_callsWord fu S (nI p) t = some S' ∧ RF p S S' ∧ (match wsF K T n t with
      | none => QC p S' (fltB 5 s)
      | some w => if calls st = 8 then QC p S' (fltB 4 s) else QC p S' s ∧ QS S' ((i, -1) :: st) ∧ sc S' 27 = nI w) := by
  have flt : ∀ e, QC p (uc S 26 e) (fltB e s) := by
    intro e
    obtain ⟨x, y, h9, d, f, c, nm, R, U, sa⟩ := s
    obtain ⟨q1, q2, q3, q4, q5, q6, q7, q8, q9, q10⟩ := hQ
    exact ⟨q1, q2, q3, q4, rfl, q6, q7, q8, q9, q10⟩
  unfold fX12_callsWord
  rw [q_blockOf hp hP.1 hD hfu, bi_some]
  have hw := (wsF_ok hP).1 t
  by_cases e1 : oW (wsF K T n t) = -1
  · rw [if_pos e1]
    have e2 := (oW_none hP.1 (fun w h => (hw w h).1)).mp e1
    rw [e2]
    unfold fX12_callsWord_L31
    rw [sc_uc, if_pos rfl, if_neg (by decide)]
    exact ⟨_, rfl, RF.uc (by omega), flt 5⟩
  · rw [if_neg e1]
    obtain ⟨w, ew⟩ : ∃ w, wsF K T n t = some w := by
      cases e9 : wsF K T n t with
      | none => exact absurd (by rw [e9]; rfl) e1
      | some w => exact ⟨w, rfl⟩
    rw [ew, hS.2.1]
    show ∃ S', _ ∧ RF p S S' ∧ (if calls st = 8 then _ else _)
    by_cases e8 : calls st = 8
    · rw [if_pos (by rw [e8]; rfl)]
      simp only [if_pos e8]
      unfold fX12_callsWord_L31
      rw [sc_uc, if_pos rfl, if_neg (by decide)]
      exact ⟨_, rfl, RF.uc (by omega), flt 4⟩
    · rw [if_neg (show ¬ nI (calls st) = (8 : Int32) from fun q => e8 ((nI_eq (by omega) (by omega : 8 < 2 ^ 31)).mp q))]
      simp only [if_neg e8]
      unfold fX12_callsWord_L31
      rw [sc_uc, if_pos rfl, if_pos rfl]
      have h28 : sc (uc (uc S 26 0) 29 (sc (uc S 26 0) 29 + 1)) 28 = nI st.length := hS.1
      have h27 : sc (uc (uc S 26 0) 29 (sc (uc S 26 0) 29 + 1)) 27 = nI i := hat
      rw [q_enters h28 hl, bi_some, h27]
      have f0 : QC p (uc S 26 0) s := by
        obtain ⟨x, y, h9, d, f, c, nm, R, U, sa⟩ := s
        have hf : f = 0 := hf
        obtain ⟨q1, q2, q3, q4, q5, q6, q7, q8, q9, q10⟩ := hQ
        exact ⟨q1, q2, q3, q4, hf.symm, q6, q7, q8, q9, q10⟩
      refine ⟨_, rfl, ?_, ?_, ?_, rfl⟩
      · exact ((((RF.uc (by omega)).trans (RF.uc (by omega))).trans (RF.ua (by omega))).trans (RF.ua (by omega))).trans ((RF.uc (by omega)).trans (RF.uc (by omega)))
      · exact QC.uc (by omega) (QC.uc (by omega) (QC.ua (Or.inr rfl) (QC.ua (Or.inl rfl) (QC.uc (by omega) f0))))
      · refine QS.push hS rfl ?_ (fun j => ?_) (fun j => ?_)
        · show sc S 29 + 1 = nI ((if (-1 : Int32) = -1 then 1 else 0) + calls st)
          rw [if_pos rfl, hS.2.1, nI_1, Nat.add_comm]
        · exact ar16
        · exact ar17
theorem SI_len {K : Nat → Int32} {n : Nat} (hn : n ≤ 30) : ∀ {st : Stk} {L : List Nat}, SI K n st L → st.length ≤ 31 * calls st + L.length := by
  intro st
  induction st with
  | nil => intro L h; exact Nat.zero_le _
  | cons q st ih =>
    intro L h
    obtain ⟨a, v⟩ := q
    rcases h with ⟨k1, ⟨o, k2, k3⟩, k4, k5, k6⟩ | ⟨k1, M, k2, k3, k4, k5, k6, k7, k8⟩
    · have hc : calls ((a, v) :: st) = 1 + calls st := by
        show (if v = -1 then 1 else 0) + calls st = _
        rw [if_pos k1]
      have := ih k6
      have hb := br_len (K := K) a
      rw [hc, k2, List.length_cons, List.length_singleton]
      omega
    · have hc : calls ((a, v) :: st) = calls st := by
        show (if v = -1 then 1 else 0) + calls st = _
        rw [if_neg k1, Nat.zero_add]
      have := ih k8
      rw [hc, k2, List.length_cons, List.length_cons]
      omega
theorem BI_len {K : Nat → Int32} {n i : Nat} {st : Stk} {s : Cor} (hn : n ≤ 30) (h : BI K n i st s) : st.length < 300 := by
  have h1 := SI_len hn h.2.1
  have h2 := br_len (K := K) i
  have h3 := h.2.2.1
  have h4 := h.1
  omega
