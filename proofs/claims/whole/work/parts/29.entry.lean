/-! THE LAW's ENTRY: the two objects and the array made, then the loop -/
def E0 (z : Nat) : Mem := (fun _ => none, fun _ _ => 0, fun _ _ => none, fun _ _ => 0, fun _ _ => 0, fun _ _ => none, z)
def S0 : SM := (fun k => if k = 46 then 20 else if k = 45 then 20 else 0, fun _ _ => 0, fun _ _ => 0)
def foR : Nat → Nat := fun r => match r with
  | 0 => 4
  | 1 => 5
  | 2 => 6
  | 3 => 7
  | 4 => 9
  | 5 => 10
  | 6 => 11
  | 7 => 12
  | 8 => 13
  | 9 => 14
  | 10 => 15
  | 11 => 16
  | 12 => 17
  | 13 => 18
  | 14 => 19
  | 15 => 20
  | 16 => 30
  | 17 => 31
  | 18 => 32
  | 19 => 33
  | 20 => 34
  | 21 => 35
  | 22 => 36
  | 23 => 38
  | 24 => 39
  | 25 => 40
  | 26 => 42
  | 27 => 43
  | 28 => 44
  | 29 => 47
  | 30 => 48
  | _ => 0
theorem RepM.subm {D : DD} {X Y : Mem} {H : Heap} (h : RepM D X H) (hz : mZ Y = mZ X) (hk : ∀ a c n, mK Y a = some (c, n) → mK X a = some (c, n) ∧ cellOf D X a c n = cellOf D Y a c n) : RepM D Y H := ⟨fun a c n q => by
  obtain ⟨h1, h2⟩ := hk a c n q
  rw [← h2]
  exact h.1 a c n h1, by rw [hz]; exact h.2⟩
def PI (m j : Nat) (s : Nat → Int32) (X : Mem) : Prop := mZ X = m + 1 + j ∧ (∀ a, mK X a = if a = m then some (12, 0) else if m < a ∧ a ≤ m + j then some (akind (a - m - 1)) else none) ∧ (∀ k, mI X (1200 + k) m = s k) ∧ (∀ i, i < j → mR X (1200 + foR i) m = some (m + 1 + i)) ∧ (∀ a i, aI X a i = 0) ∧ (∀ a i, aJ X a i = 0)
theorem pi_0 (m : Nat) : PI m 0 (fun _ => 0) (nO (E0 m) 12) := by
  refine ⟨rfl, fun a => ?_, fun k => if_pos rfl, fun i h => absurd h (Nat.not_lt_zero i), fun _ _ => rfl, fun _ _ => rfl⟩
  show (if a = m then some (12, 0) else none) = _
  by_cases e : a = m
  · rw [if_pos e, if_pos e]
  · rw [if_neg e, if_neg e, if_neg (by omega)]
theorem pi_wI {m j k0 : Nat} {s : Nat → Int32} {v : Int32} {X : Mem} (h : PI m j s X) : PI m j (fun k => if k = k0 then v else s k) (wI X (1200 + k0) m v) := by
  obtain ⟨h1, h2, h3, h4, h5, h6⟩ := h
  refine ⟨h1, h2, fun k => ?_, h4, h5, h6⟩
  show (if 1200 + k = 1200 + k0 ∧ m = m then v else mI X (1200 + k) m) = if k = k0 then v else s k
  by_cases e : k = k0
  · rw [if_pos ⟨by rw [e], rfl⟩, if_pos e]
  · rw [if_neg (fun q => e (by omega)), if_neg e, h3]
theorem pi_step {m j t n k : Nat} {s : Nat → Int32} {X : Mem} {Post : Mem → Prop} {G : Nat → Mem → Option Mem} (hP : PI m j s X) (hj : akind j = (20 + t, n)) (hf : 1200 + foR j = k) (hin : ∀ i, i < j → foR i ≠ foR j)
    (next : PI m (j + 1) s (wR (nA X t n) k m (some (m + 1 + j))) → ∃ r, G (m + 1 + j) (nA X t n) = some r ∧ Post r) : ∃ r, (Option.bind (some (mZ X)) fun q => Option.bind (some (nA X t n)) fun X7 => if mK X7 m = some (12, 0) then G q X7 else none) = some r ∧ Post r := by
  subst hf
  obtain ⟨h1, h2, h3, h4, h5, h6⟩ := hP
  have hK : ∀ a, mK (nA X t n) a = if a = m then some (12, 0) else if m < a ∧ a ≤ m + (j + 1) then some (akind (a - m - 1)) else none := by
    intro a
    show (if a = mZ X then some (20 + t, n) else mK X a) = _
    rw [h1, h2]
    by_cases e : a = m + 1 + j
    · rw [if_pos e, if_neg (by omega), if_pos (by omega), e, show m + 1 + j - m - 1 = j by omega, hj]
    · rw [if_neg e]
      by_cases e2 : a = m
      · rw [if_pos e2, if_pos e2]
      · rw [if_neg e2, if_neg e2]
        by_cases e3 : m < a ∧ a ≤ m + j
        · rw [if_pos e3, if_pos (by omega)]
        · rw [if_neg e3, if_neg (by omega)]
  show ∃ r, (if mK (nA X t n) m = some (12, 0) then G (mZ X) (nA X t n) else none) = some r ∧ Post r
  rw [if_pos (by rw [hK, if_pos rfl]), h1]
  refine next ⟨?_, hK, h3, fun i hi => ?_, fun a i => ?_, fun a i => ?_⟩
  · show mZ X + 1 = _
    rw [h1]
    rfl
  · show (if 1200 + foR i = 1200 + foR j ∧ m = m then some (m + 1 + j) else mR X (1200 + foR i) m) = some (m + 1 + i)
    by_cases e : i = j
    · rw [if_pos ⟨by rw [e], rfl⟩, e]
    · rw [if_neg (fun q => hin i (by omega) (by omega)), h4 i (by omega)]
  · show (if a = mZ X then 0 else aI X a i) = 0
    rw [h5]
    split <;> rfl
  · show (if a = mZ X then 0 else aJ X a i) = 0
    rw [h6]
    split <;> rfl
set_option maxRecDepth 100000 in
set_option maxHeartbeats 4000000 in
theorem X12_init_pi (m : Nat) : ∃ r, fX12_init (nO (E0 m) 12) m = some r ∧ PI m 31 (fun k => if k = 46 then 20 else if k = 45 then 20 else 0) r := by
  unfold fX12_init
  have hP := pi_0 m
  refine pi_step (j := 0) (t := 0) (n := 30) (k := 1204) hP rfl rfl (by decide) (fun hP => ?_)
  refine pi_step (j := 1) (t := 0) (n := 30) (k := 1205) hP rfl rfl (by decide) (fun hP => ?_)
  refine pi_step (j := 2) (t := 0) (n := 30) (k := 1206) hP rfl rfl (by decide) (fun hP => ?_)
  refine pi_step (j := 3) (t := 1) (n := 30) (k := 1207) hP rfl rfl (by decide) (fun hP => ?_)
  refine pi_step (j := 4) (t := 0) (n := 30) (k := 1209) hP rfl rfl (by decide) (fun hP => ?_)
  refine pi_step (j := 5) (t := 0) (n := 30) (k := 1210) hP rfl rfl (by decide) (fun hP => ?_)
  refine pi_step (j := 6) (t := 0) (n := 900) (k := 1211) hP rfl rfl (by decide) (fun hP => ?_)
  refine pi_step (j := 7) (t := 0) (n := 900) (k := 1212) hP rfl rfl (by decide) (fun hP => ?_)
  refine pi_step (j := 8) (t := 0) (n := 900) (k := 1213) hP rfl rfl (by decide) (fun hP => ?_)
  refine pi_step (j := 9) (t := 1) (n := 900) (k := 1214) hP rfl rfl (by decide) (fun hP => ?_)
  refine pi_step (j := 10) (t := 0) (n := 30) (k := 1215) hP rfl rfl (by decide) (fun hP => ?_)
  refine pi_step (j := 11) (t := 0) (n := 30) (k := 1216) hP rfl rfl (by decide) (fun hP => ?_)
  refine pi_step (j := 12) (t := 0) (n := 30) (k := 1217) hP rfl rfl (by decide) (fun hP => ?_)
  refine pi_step (j := 13) (t := 0) (n := 480) (k := 1218) hP rfl rfl (by decide) (fun hP => ?_)
  refine pi_step (j := 14) (t := 0) (n := 480) (k := 1219) hP rfl rfl (by decide) (fun hP => ?_)
  refine pi_step (j := 15) (t := 0) (n := 4) (k := 1220) hP rfl rfl (by decide) (fun hP => ?_)
  refine pi_step (j := 16) (t := 0) (n := 300) (k := 1230) hP rfl rfl (by decide) (fun hP => ?_)
  refine pi_step (j := 17) (t := 0) (n := 300) (k := 1231) hP rfl rfl (by decide) (fun hP => ?_)
  refine pi_step (j := 18) (t := 0) (n := 601) (k := 1232) hP rfl rfl (by decide) (fun hP => ?_)
  refine pi_step (j := 19) (t := 0) (n := 60) (k := 1233) hP rfl rfl (by decide) (fun hP => ?_)
  refine pi_step (j := 20) (t := 0) (n := 4) (k := 1234) hP rfl rfl (by decide) (fun hP => ?_)
  refine pi_step (j := 21) (t := 0) (n := 4) (k := 1235) hP rfl rfl (by decide) (fun hP => ?_)
  refine pi_step (j := 22) (t := 0) (n := 961) (k := 1236) hP rfl rfl (by decide) (fun hP => ?_)
  refine pi_step (j := 23) (t := 0) (n := 6) (k := 1238) hP rfl rfl (by decide) (fun hP => ?_)
  refine pi_step (j := 24) (t := 0) (n := 6) (k := 1239) hP rfl rfl (by decide) (fun hP => ?_)
  refine pi_step (j := 25) (t := 0) (n := 6) (k := 1240) hP rfl rfl (by decide) (fun hP => ?_)
  refine pi_step (j := 26) (t := 0) (n := 24) (k := 1242) hP rfl rfl (by decide) (fun hP => ?_)
  refine pi_step (j := 27) (t := 0) (n := 24) (k := 1243) hP rfl rfl (by decide) (fun hP => ?_)
  refine pi_step (j := 28) (t := 1) (n := 24) (k := 1244) hP rfl rfl (by decide) (fun hP => ?_)
  refine pi_step (j := 29) (t := 2) (n := 40) (k := 1247) (pi_wI (k0 := 46) (pi_wI (k0 := 45) hP)) rfl rfl (by decide) (fun hP => ?_)
  refine pi_step (j := 30) (t := 0) (n := 24) (k := 1248) hP rfl rfl (by decide) (fun hP => ?_)
  exact ⟨_, rfl, hP⟩
theorem fo_rk : ∀ k, k < 49 → fR 12 k = true → foR (rkOf k) = k ∧ rkOf k < 31 := by decide +kernel
theorem ak_le : ∀ i, i < 31 → 20 ≤ (akind i).1 ∧ (akind i).1 ≤ 22 := by decide +kernel
theorem pi_sub {m z a c n : Nat} {r : Mem} {D : DD} (h : PI m 31 (fun k => if k = 46 then 20 else if k = 45 then 20 else 0) r) (hk : mK (xS m S0 z) a = some (c, n)) : mK r a = some (c, n) ∧ cellOf D r a c n = cellOf D (xS m S0 z) a c n := by
  obtain ⟨h1, h2, h3, h4, h5, h6⟩ := h
  have hK : mK r a = some (c, n) := by rw [h2]; exact hk
  refine ⟨hK, ?_⟩
  have hk' : (if a = m then some (12, 0) else if m < a ∧ a ≤ m + 31 then some (akind (a - m - 1)) else none) = some (c, n) := hk
  by_cases e : a = m
  · rw [if_pos e] at hk'
    cases hk'
    subst e
    have e1 : fsOf r 12 a = fsOf (xS a S0 z) 12 a := by
      unfold fsOf
      refine List.map_congr_left fun k hk => ?_
      have hk : k < 49 := List.mem_range.mp hk
      by_cases hf : fR 12 k = true
      · rw [if_pos hf, if_pos hf]
        obtain ⟨q1, q2⟩ := fo_rk k hk hf
        have e2 : mR r (1200 + k) a = some (a + 1 + rkOf k) := by
          have := h4 (rkOf k) q2
          rw [q1] at this
          exact this
        have e3 : mR (xS a S0 z) (1200 + k) a = some (a + 1 + rkOf k) := by
          show (if a = a ∧ 1200 ≤ 1200 + k then some (a + 1 + rkOf (1200 + k - 1200)) else none) = _
          rw [if_pos ⟨rfl, by omega⟩, Nat.add_sub_cancel_left]
        exact congrArg va_rf (e2.trans e3.symm)
      · rw [if_neg hf, if_neg hf]
        have e3 : mI (xS a S0 z) (1200 + k) a = (if k = 46 then 20 else if k = 45 then 20 else 0) := by
          show (if a = a ∧ 1200 ≤ 1200 + k then sc S0 (1200 + k - 1200) else 0) = _
          rw [if_pos ⟨rfl, by omega⟩, Nat.add_sub_cancel_left]
          rfl
        exact congrArg Value.int ((h3 k).trans e3.symm)
    unfold cellOf
    rw [if_pos (by decide), if_pos (by decide), e1]
  · rw [if_neg e] at hk'
    by_cases e2 : m < a ∧ a ≤ m + 31
    · rw [if_pos e2] at hk'
      obtain ⟨q1, q2⟩ := ak_le (a - m - 1) (by omega)
      rw [Option.some.inj hk'] at q1 q2
      have e3 : aI r a = aI (xS m S0 z) a := funext fun i => (h5 a i).trans (if_pos e2.1).symm
      have e4 : aJ r a = aJ (xS m S0 z) a := funext fun i => (h6 a i).trans (if_pos e2.1).symm
      have q1 : 20 ≤ c := q1
      have q2 : c ≤ 22 := q2
      unfold cellOf
      rw [if_neg (show ¬ c < 13 by omega), if_neg (show ¬ c < 13 by omega)]
      by_cases e5 : c < 22
      · rw [if_pos e5, if_pos e5, e3]
      · rw [if_neg e5, if_neg e5, if_pos (show c = 22 by omega), if_pos (show c = 22 by omega), e4]
    · rw [if_neg e2] at hk'
      cases hk'
theorem oM_dom' {oa a c n : Nat} {g : Nat → Int64} (h : mK (oM oa g) a = some (c, n)) : a = oa ∧ c = 22 ∧ n = 1 := by
  have e := oM_dom (a := a) (oa := oa) (g := g) (by rw [h]; exact fun z => nomatch z)
  subst e
  rw [oM_K] at h
  cases h
  exact ⟨rfl, rfl, rfl⟩
/-- the three memories out of the one -/
theorem LM_0 {D : DD} {X1 r : Mem} {H : Heap} (hf : ∀ a, mK X1 a ≠ none → a < mZ X1) (h : PI (mZ X1) 31 (fun k => if k = 46 then 20 else if k = 45 then 20 else 0) r) (hR : RepM D (nA (uM r X1) 2 1) H) : RepM D (LM (zM X1 (mZ X1 + 33)) (mZ X1 + 32) (fun _ => 0) (mZ X1) S0) H := by
  have hz : mZ (nA (uM r X1) 2 1) = mZ X1 + 33 := by
    show mZ r + 1 = _
    rw [h.1]
  have hzr : mZ (uM r X1) = mZ X1 + 32 := h.1
  have K1 : ∀ a, a ≠ mZ X1 + 32 → mK (nA (uM r X1) 2 1) a = mK (uM r X1) a := fun a ha => by
    show (if a = mZ (uM r X1) then _ else mK (uM r X1) a) = _
    rw [hzr, if_neg ha]
  have C1 : ∀ a c n, a ≠ mZ X1 + 32 → cellOf D (nA (uM r X1) 2 1) a c n = cellOf D (uM r X1) a c n := fun a c n ha => by
    have hne : a ≠ mZ (uM r X1) := by rw [hzr]; exact ha
    have e2 : aI (nA (uM r X1) 2 1) a = aI (uM r X1) a := funext fun i => if_neg hne
    have e3 : aJ (nA (uM r X1) 2 1) a = aJ (uM r X1) a := funext fun i => if_neg hne
    have e4 : aR (nA (uM r X1) 2 1) a = aR (uM r X1) a := funext fun i => if_neg hne
    have e1 : fsOf (nA (uM r X1) 2 1) c a = fsOf (uM r X1) c a := rfl
    unfold cellOf
    rw [e1, e2, e3, e4]
  have hA : RepM D (zM X1 (mZ X1 + 33)) H := by
    refine hR.subm hz.symm fun a c n q => ?_
    have q : mK X1 a = some (c, n) := q
    have hlt := hf a (by rw [q]; exact fun z => nomatch z)
    have hr0 : mK r a = none := by
      rw [h.2.1, if_neg (by omega), if_neg (by omega)]
    rw [K1 a (by omega), C1 a c n (by omega), uM_Kr hr0, uM_cr hr0, cellOf_zM]
    exact ⟨q, rfl⟩
  have hB : RepM D (xS (mZ X1) S0 (mZ X1 + 33)) H := by
    refine hR.subm hz.symm fun a c n q => ?_
    obtain ⟨q1, q2⟩ := pi_sub (D := D) h q
    obtain ⟨d1, d2⟩ := xS_dom (m := mZ X1) (S := S0) (z := mZ X1 + 33) (a := a) (by rw [q]; exact fun z => nomatch z)
    rw [K1 a (by omega), C1 a c n (by omega), uM_Kl q1, uM_cl q1]
    exact ⟨rfl, q2⟩
  have hO : RepM D (zM (oM (mZ X1 + 32) (fun _ => 0)) (mZ X1 + 33)) H := by
    refine hR.subm hz.symm fun a c n q => ?_
    obtain ⟨rfl, rfl, rfl⟩ := oM_dom' (show mK (oM (mZ X1 + 32) (fun _ => 0)) a = some (c, n) from q)
    refine ⟨?_, ?_⟩
    · show (if mZ X1 + 32 = mZ (uM r X1) then some (20 + 2, 1) else _) = _
      rw [hzr, if_pos rfl]
    · have e3 : aJ (nA (uM r X1) 2 1) (mZ X1 + 32) = aJ (zM (oM (mZ X1 + 32) (fun _ => 0)) (mZ X1 + 33)) (mZ X1 + 32) := funext fun i => by
        show (if mZ X1 + 32 = mZ (uM r X1) then 0 else _) = (if mZ X1 + 32 = mZ X1 + 32 then (0 : Int64) else 0)
        rw [hzr, if_pos rfl, if_pos rfl]
      unfold cellOf
      rw [if_neg (by decide), if_neg (by decide), if_pos rfl, if_neg (by decide), if_neg (by decide), if_pos rfl, e3]
  have k := (hA.union hO).union hB
  exact k
theorem nO_u {D : DD} {X1 : Mem} {H : Heap} (hf : ∀ a, mK X1 a ≠ none → a < mZ X1) (hR : RepM D (nO X1 12) H) : RepM D (uM (nO (E0 (mZ X1)) 12) X1) H := by
  have h1 : RepM D (nO (E0 (mZ X1)) 12) H := by
    refine hR.subm rfl fun a c n q => ?_
    have q' : (if a = mZ X1 then some (12, 0) else none) = some (c, n) := q
    by_cases e : a = mZ X1
    · rw [if_pos e] at q'
      cases q'
      subst e
      refine ⟨if_pos rfl, ?_⟩
      have e1 : fsOf (nO X1 12) 12 (mZ X1) = fsOf (nO (E0 (mZ X1)) 12) 12 (mZ X1) := by
        unfold fsOf
        refine List.map_congr_left fun k _ => ?_
        have p1 : mR (nO X1 12) (100 * 12 + k) (mZ X1) = none := if_pos rfl
        have p2 : mI (nO X1 12) (100 * 12 + k) (mZ X1) = 0 := if_pos rfl
        have p3 : mR (nO (E0 (mZ X1)) 12) (100 * 12 + k) (mZ X1) = none := if_pos rfl
        have p4 : mI (nO (E0 (mZ X1)) 12) (100 * 12 + k) (mZ X1) = 0 := if_pos rfl
        rw [p1, p2, p3, p4]
      unfold cellOf
      rw [if_pos (by decide), if_pos (by decide), e1]
    · rw [if_neg e] at q'
      cases q'
  have h2 : RepM D (zM X1 (mZ X1 + 1)) H := by
    refine hR.subm rfl fun a c n q => ?_
    have q : mK X1 a = some (c, n) := q
    have hlt := hf a (by rw [q]; exact fun z => nomatch z)
    have hne : a ≠ mZ X1 := by omega
    refine ⟨by rw [← q]; exact if_neg hne, ?_⟩
    have e1 : fsOf (nO X1 12) c a = fsOf X1 c a := by
      unfold fsOf
      refine List.map_congr_left fun k _ => ?_
      have p1 : mR (nO X1 12) (100 * c + k) a = mR X1 (100 * c + k) a := if_neg hne
      have p2 : mI (nO X1 12) (100 * c + k) a = mI X1 (100 * c + k) a := if_neg hne
      rw [p1, p2]
    rw [cellOf_zM]
    unfold cellOf
    rw [e1]
    rfl
  have k := h1.union h2
  exact k
theorem kxL_8 : Cond.classLink RL 8 (clC 11) ∈ gd := List.mem_filter.mpr ⟨List.mem_append_right _ (by decide +kernel), by decide +kernel⟩
theorem kxL_111 : Cond.classLink RL 111 (clC 12) ∈ gd := List.mem_filter.mpr ⟨List.mem_append_right _ (by decide +kernel), by decide +kernel⟩
theorem kinL11 : Cond.instantiable (clC 11) (fN 11) ∈ gd := List.mem_filter.mpr ⟨List.mem_append_right _ (by decide +kernel), by decide +kernel⟩
theorem kinL12 : Cond.instantiable (clC 12) (fN 12) ∈ gd := List.mem_filter.mpr ⟨List.mem_append_right _ (by decide +kernel), by decide +kernel⟩
theorem kmL_110 : Cond.methodLink RL 110 yX11_init ∈ gd := List.mem_filter.mpr ⟨List.mem_append_right _ (by decide +kernel), by decide +kernel⟩
theorem kmL_113 : Cond.methodLink RL 113 yX12_init ∈ gd := List.mem_filter.mpr ⟨List.mem_append_right _ (by decide +kernel), by decide +kernel⟩
theorem kcL_X11 : Cond.code yX11_init cX11_init 1 none ∈ gd := List.mem_filter.mpr ⟨List.mem_append_right _ (by decide +kernel), by decide +kernel⟩
theorem kcL_X12 : Cond.code yX12_init cX12_init 1 none ∈ gd := List.mem_filter.mpr ⟨List.mem_append_right _ (by decide +kernel), by decide +kernel⟩
theorem knL_X11 : Cond.instanceMethod yX11_init ∈ gd := List.mem_filter.mpr ⟨List.mem_append_right _ (by decide +kernel), by decide +kernel⟩
theorem knL_X12 : Cond.instanceMethod yX12_init ∈ gd := List.mem_filter.mpr ⟨List.mem_append_right _ (by decide +kernel), by decide +kernel⟩
theorem kzL_12 : Cond.initialized (clC 12) ∈ gd := List.mem_filter.mpr ⟨List.mem_append_right _ (by decide +kernel), by decide +kernel⟩
theorem kaL : Cond.arrayClass (newarray.typeOf .long) ∈ gd := List.mem_filter.mpr ⟨List.mem_append_right _ (by decide +kernel), by decide +kernel⟩
theorem calL_X11 : CalOK yX11_init cX11_init 1 none 0 := ⟨kcL_X11, ki_X11, by decide, by decide +kernel⟩
theorem calL_X12 : CalOK yX12_init cX12_init 1 none 0 := ⟨kcL_X12, kzL_12, by decide, by decide +kernel⟩
def RelInit (Rel : Nat → Mem → SM → Prop) : Prop := ∀ z, ∃ X1, fX11_init (nO (E0 z) 11) z = some X1 ∧ Rel z X1 S0 ∧ ∀ a, mK X1 a ≠ none → a < mZ X1
set_option maxRecDepth 100000 in
set_option maxHeartbeats 4000000 in
theorem law_entry {D : DD} {ev : EV} {Q : State → Prop} {Rel : Nat → Mem → SM → Prop} {fu b Ls z : Nat} {xs : Nat → Int32} (hrz : ∀ x X S z, Rel x X S → Rel x (zM X z) S) (hrk : ∀ x X S, Rel x X S → mK X x = some (11, 0)) (sems : Sems Rel fu) (hin : RelInit Rel) (B : Amb D (A0L ev) ev RL "law" cL_law 7 (some .boolean) room_1) (hnc : EvNc ev) (hs : ScrL ev b Ls xs) (hL : Ls ≤ 2560)
    (hend : ∀ X cs sl L, cs ≤ 601024 → sl ≤ 7293034 → Gd D (A0L ev) ev Q X cs sl 2222 L [vI 1]) : Gd D (A0L ev) ev Q (E0 z) 0 0 0 [(0, vA (some b))] [] := by
  obtain ⟨X1, e1, hrel, hf⟩ := hin z
  obtain ⟨r, e2, hpi⟩ := X12_init_pi (mZ X1)
  refine g_new (pc := 0) 11 B (by decide) kxL_8 kinL11 ki_X11 (by decide) (by decide) dL_law_0 ?_
  refine g_widen (cs' := 1) (sl' := 11) (by decide) (by decide) ?_
  refine g_dup (pc := 3) B dL_law_3 rfl ?_
  refine h_callI (pc := 4) (As := []) (st := [vA (some z)]) (X' := X1) (cs' := 23) (sl' := 589) B calL_X11 kmL_110 knL_X11 rfl (fun l hl => ct_X11_init hl e1) rfl (Nat.le_of_ble_eq_true rfl) (by decide) (by decide) dL_law_4 rfl rfl rfl ?_
  refine g_astore_n (pc := 7) (L' := [(1, vA (some z)), (0, vA (some b))]) B dL_law_7 (by decide) rfl ?_
  refine g_new (pc := 8) 12 B (by decide) kxL_111 kinL12 kzL_12 (by decide) (by decide) dL_law_8 ?_
  refine g_widen (cs' := 24) (sl' := 638) (by decide) (by decide) ?_
  refine g_dup (pc := 11) B dL_law_11 rfl ?_
  refine g_mem (fun H hR => nO_u hf hR) (fun a ha => ?_) ?_
  · rcases uM_dom.mp ha with q | q
    · have q' : (if a = mZ X1 then some (12, 0) else none) ≠ none := q
      by_cases e : a = mZ X1
      · show (if a = mZ X1 then some (12, 0) else mK X1 a) ≠ none
        rw [if_pos e]
        exact fun z => nomatch z
      · rw [if_neg e] at q'
        exact absurd rfl q'
    · show (if a = mZ X1 then some (12, 0) else mK X1 a) ≠ none
      split
      · exact fun z => nomatch z
      · exact q
  have hap : apM (nO (E0 (mZ X1)) 12) X1 := fun a ha => if_neg (by have h9 := hf a ha; show ¬ a = mZ X1; omega)
  refine h_callI (pc := 12) (As := []) (st := [vA (some (mZ X1))]) (X' := uM r X1) (cs' := 55) (sl' := 7856) B calL_X12 kmL_113 knL_X12 rfl (fun l hl => (ct_X12_init hl e2).frame X1 hap) rfl (Nat.le_of_ble_eq_true rfl) (by decide) (by decide) dL_law_12 rfl rfl rfl ?_
  refine g_astore_n (pc := 15) (L' := [(2, vA (some (mZ X1))), (1, vA (some z)), (0, vA (some b))]) B dL_law_15 (by decide) rfl ?_
  refine g_iconst (pc := 16) B dL_law_16 (1 : Int32) (by decide) ?_
  refine g_newa (pc := 17) (t := 2) (N := 1) B (by decide) rfl kaL (by decide) (by decide) (by decide) (by decide) (by decide) dL_law_17 ?_
  have hz : mZ (uM r X1) = mZ X1 + 32 := hpi.1
  rw [hz]
  refine g_mem (fun H hR => LM_0 hf hpi hR) (fun a ha => ?_) ?_
  · show (if a = mZ (uM r X1) then some (20 + 2, 1) else mK (uM r X1) a) ≠ none
    rw [hz]
    by_cases e : a = mZ X1 + 32
    · rw [if_pos e]
      exact fun z => nomatch z
    · rw [if_neg e]
      rcases uM_dom.mp ha with q | q
      · rcases uM_dom.mp q with q | q
        · exact uM_dom.mpr (Or.inr q)
        · exact absurd (oM_dom q) e
      · refine uM_dom.mpr (Or.inl ?_)
        rw [hpi.2.1]
        exact q
  refine g_astore_n (pc := 19) (L' := [(3, vA (some (mZ X1 + 32))), (2, vA (some (mZ X1))), (1, vA (some z)), (0, vA (some b))]) B dL_law_19 (by decide) rfl ?_
  refine g_iconst (pc := 20) B dL_law_20 (0 : Int32) (by decide) ?_
  refine g_istore (pc := 21) (L' := [(4, vI 0), (3, vA (some (mZ X1 + 32))), (2, vA (some (mZ X1))), (1, vA (some z)), (0, vA (some b))]) B dL_law_21 (by decide) rfl ?_
  refine g_sub (pc := 23) (L' := [(0, vA (some b)), (1, vA (some z)), (2, vA (some (mZ X1))), (3, vA (some (mZ X1 + 32))), (4, vI (nI (5 * 0)))]) [4, 3, 2, 1, 0] rfl ?_
  have none_of : ∀ a, mZ X1 ≤ a → mK X1 a = none := fun a ha => Classical.byContradiction fun q => by have := hf a q; omega
  have hLD : LD (zM X1 (mZ X1 + 33)) (mZ X1 + 32) (mZ X1) := ⟨none_of _ (by omega), fun a h1 _ => none_of a h1, by omega⟩
  exact law_loop hrz hrk sems B hnc hs hL hend 513 0 (zM X1 (mZ X1 + 33)) (fun _ => 0) S0 56 7857 (by omega) (by omega) (by omega) (by omega) (hrz _ _ _ _ hrel) hLD
