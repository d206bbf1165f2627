/-! the run from its beginning -/
def clG (K : Nat → Int32) : Nat → Nat → Nat
  | 0, _ => 0
  | c + 1, o => if K c = 8 ∧ br K c = o :: br K o then c else clG K c o
theorem clG_ok {K T V N : Nat → Int32} {n : Nat} (hP : VP K T V N n) : ClOK K n (clG K n) := by
  have key : ∀ m o c, c < m → K c = 8 → br K c = o :: br K o → clG K m o < m ∧ K (clG K m o) = 8 ∧ br K (clG K m o) = o :: br K o := by
    intro m
    induction m with
    | zero => intro o c h; exact absurd h (Nat.not_lt_zero _)
    | succ m ih =>
      intro o c hc h8 hb
      have e : clG K (m + 1) o = if K m = 8 ∧ br K m = o :: br K o then m else clG K m o := rfl
      by_cases h : K m = 8 ∧ br K m = o :: br K o
      · rw [e, if_pos h]
        exact ⟨Nat.lt_succ_self m, h⟩
      · rw [e, if_neg h]
        have hne : c ≠ m := fun q => h (by rw [← q]; exact ⟨h8, hb⟩)
        obtain ⟨a1, a2⟩ := ih o c (by omega) h8 hb
        exact ⟨by omega, a2⟩
  intro o ho h
  obtain ⟨c, hc⟩ := cl_ex hP.2.2.1 ho h
  obtain ⟨a1, a2, a3⟩ := key n o c hc.2.1 hc.2.2.1 hc.2.2.2.1
  exact cl_of hP.2.2.1 a1 a2 a3
def c0B : Cor := (8, 8, 0, 1, 0, 0, fun _ => 0, fun _ => 0, fun _ => 0, fun _ => 0)
def finB (K T V N : Nat → Int32) (n : Nat) : Cor := (rnB K T V N n (clG K n) (wsF K T n) 81737 (0, [], c0B)).2.2
theorem c0_BI {K : Nat → Int32} {n : Nat} : BI K n 0 [] c0B := ⟨Nat.zero_le n, rfl, by decide, ⟨by decide, by decide, Or.inl rfl, Or.inr rfl, fun _ _ => (show -999 ≤ (0 : Int32) ∧ (0 : Int32) ≤ 999 by decide), by decide⟩⟩
theorem c0_PSI {K T V N : Nat → Int32} {n : Nat} (hP : VP K T V N n) : PSI K n 0 [] (cC c0B) < 81737 := by
  have h := pc_15 hP 0
  unfold PSI
  show (600 - 0) * 136 + (if 0 < n ∧ (K 0 = 6 ∨ K 0 = 8) then 15 * 0 + (pc K n - pc K 0) else 0) < 81737
  split <;> omega
theorem rnB_mon {K T V N : Nat → Int32} {n : Nat} {cl : Nat → Nat} (hP : VP K T V N n) (hcl : ClOK K n cl) : ∀ (L : Nat) (b : Nat × Stk × Cor), BI K n b.1 b.2.1 b.2.2 → MonB b.2.2 (rnB K T V N n cl (wsF K T n) L b).2.2 := by
  intro L
  induction L with
  | zero => intro b _; exact MonB.rfl9
  | succ L ih =>
    intro b hB
    by_cases hon : b.1 < n ∧ cF b.2.2 = 0
    · rw [rnB_on hon]
      obtain ⟨b1, b2, b3⟩ := stB_ok hP hcl (wsF_ok hP) hon.1 hB
      exact b2.trans (ih _ b1)
    · rw [rnB_off hon]
      exact MonB.rfl9
theorem q_beg2 {p fu : Nat} (hp : p < 30) : ∀ (t k m : Nat) (S : SM), k + t = 16 → ∃ S', fX12_begins_L22 fu (m + t + 1) S (nI p) (nI k) = some S' ∧ RF p S S' ∧ sc S' 21 = 8 ∧ sc S' 22 = 8 ∧ sc S' 23 = 0 ∧ sc S' 24 = 1 ∧ sc S' 25 = 0 ∧ sc S' 26 = 0 ∧ sc S' 27 = 0 ∧ sc S' 28 = 0 ∧ sc S' 29 = 0 ∧ (∀ j, j < 16 → ar S' 13 (16 * p + j) = if k ≤ j then 0 else ar S 13 (16 * p + j)) ∧ (∀ j, j < 16 → ar S' 14 (16 * p + j) = if k ≤ j then 0 else ar S 14 (16 * p + j)) ∧ (∀ r, 15 ≤ r → ar S' r = ar S r) := by
  intro t
  induction t with
  | zero =>
    intro k m S hk
    have hk : k = 16 := hk
    subst hk
    show ∃ S', fX12_begins_L22b fu (fX12_begins_L22 fu m) S (nI p) (nI 16) = some S' ∧ _
    unfold fX12_begins_L22b
    rw [if_pos (by decide)]
    refine ⟨_, rfl, ((((((((RF.uc (by omega)).trans (RF.uc (by omega))).trans (RF.uc (by omega))).trans (RF.uc (by omega))).trans (RF.uc (by omega))).trans (RF.uc (by omega))).trans (RF.uc (by omega))).trans (RF.uc (by omega))).trans (RF.uc (by omega)), rfl, rfl, rfl, rfl, rfl, rfl, rfl, rfl, rfl, fun j hj => ?_, fun j hj => ?_, fun _ _ => rfl⟩
    · rw [if_neg (by omega)]; rfl
    · rw [if_neg (by omega)]; rfl
  | succ t ih =>
    intro k m S hk
    show ∃ S', fX12_begins_L22b fu (fX12_begins_L22 fu (m + t + 1)) S (nI p) (nI k) = some S' ∧ _
    unfold fX12_begins_L22b
    have hi : 16 * p + k < 480 := by omega
    rw [if_neg (show ¬ (16 : Int32) ≤ nI k from fun q => by have := (nI_leI (by omega : 16 < 2 ^ 31) (by omega)).mp q; omega), q_idx, if_pos (inS_ok (by decide) rfl hi (by decide)), if_pos (inS_ok (by decide) rfl hi (by decide)), nI_clamp (by omega), nI_1]
    obtain ⟨S', a0, a1, b1, b2, b3, b4, b5, b6, b7, b8, b9, a2, a3, a4⟩ := ih (k + 1) m (ua (ua S 13 (16 * p + k) 0) 14 (16 * p + k) 0) (by omega)
    have rf : RF p S (ua (ua S 13 (16 * p + k) 0) 14 (16 * p + k) 0) := ((GF.ua (by omega)).trans (GF.ua (by omega))).rf
    refine ⟨S', a0, rf.trans a1, b1, b2, b3, b4, b5, b6, b7, b8, b9, fun j hj => ?_, fun j hj => ?_, fun r hr => ?_⟩
    · have e9 : ar (ua (ua S 13 (16 * p + k) 0) 14 (16 * p + k) 0) 13 (16 * p + j) = if j = k then 0 else ar S 13 (16 * p + j) := by
        rw [ar_ua, if_neg (by omega), ar_ua]
        by_cases e2 : j = k
        · rw [if_pos (by omega), if_pos e2]
        · rw [if_neg (by omega), if_neg e2]
      rw [a2 j hj, e9]
      by_cases e : k + 1 ≤ j
      · rw [if_pos e, if_pos (show k ≤ j by omega)]
      · rw [if_neg e]
        by_cases e2 : j = k
        · rw [if_pos e2, if_pos (show k ≤ j by omega)]
        · rw [if_neg e2, if_neg (show ¬ k ≤ j by omega)]
    · have e9 : ar (ua (ua S 13 (16 * p + k) 0) 14 (16 * p + k) 0) 14 (16 * p + j) = if j = k then 0 else ar S 14 (16 * p + j) := by
        rw [ar_ua]
        by_cases e2 : j = k
        · rw [if_pos (by omega), if_pos e2]
        · rw [if_neg (by omega), if_neg e2, ar_ua, if_neg (by omega)]
      rw [a3 j hj, e9]
      by_cases e : k + 1 ≤ j
      · rw [if_pos e, if_pos (show k ≤ j by omega)]
      · rw [if_neg e]
        by_cases e2 : j = k
        · rw [if_pos e2, if_pos (show k ≤ j by omega)]
        · rw [if_neg e2, if_neg (show ¬ k ≤ j by omega)]
    · rw [a4 r hr]
      exact funext fun j => (if_neg (by omega)).trans (if_neg (by omega))
theorem q_beg1 {p fu : Nat} (hp : p < 30) (hfu : 2000 ≤ fu) : ∀ (t k m : Nat) (S : SM), k + t = 4 → ar S 18 0 = 0 → (∀ j, j < k → ar S 15 j = 0) → ∃ S', fX12_begins_L2 fu (m + t + 1) S (nI p) (nI k) = some S' ∧ RF p S S' ∧ QC p S' c0B ∧ QS S' [] ∧ sc S' 27 = 0 := by
  intro t
  induction t with
  | zero =>
    intro k m S hk h18 h15
    have hk : k = 4 := hk
    subst hk
    show ∃ S', fX12_begins_L2b fu (fX12_begins_L2 fu m) S (nI p) (nI 4) = some S' ∧ _
    unfold fX12_begins_L2b
    rw [if_pos (by decide)]
    obtain ⟨S', a0, a1, b1, b2, b3, b4, b5, b6, b7, b8, b9, a2, a3, a4⟩ := q_beg2 (fu := fu) hp 16 0 (fu - 17) S rfl
    rw [show fu - 17 + 16 + 1 = fu by omega] at a0
    refine ⟨S', a0, a1, ⟨b1, b2, b3, b4, b6, b5, fun j hj => ?_, fun j hj => ?_, fun j hj => ?_, fun j hj => ?_⟩, ⟨b8, b9, trivial⟩, b7⟩
    · rw [a4 15 (by omega), h15 j hj]
    · rw [a2 j hj, if_pos (Nat.zero_le _)]
    · rw [a3 j hj, if_pos (Nat.zero_le _)]
    · have hj : j = 0 := Nat.le_zero.mp hj
      rw [a4 18 (by omega), hj, h18]
  | succ t ih =>
    intro k m S hk h18 h15
    show ∃ S', fX12_begins_L2b fu (fX12_begins_L2 fu (m + t + 1)) S (nI p) (nI k) = some S' ∧ _
    unfold fX12_begins_L2b
    rw [if_neg (show ¬ (4 : Int32) ≤ nI k from fun q => by have := (nI_leI (by omega : 4 < 2 ^ 31) (by omega)).mp q; omega), if_pos (inS_ok (by decide) rfl (by show k < 4; omega) (by decide)), nI_clamp (by omega), nI_1]
    obtain ⟨S', a0, a1, a2⟩ := ih (k + 1) m (ua S 15 k 0) (by omega) (by rw [ar_ua, if_neg (by omega)]; exact h18) (fun j hj => by
      rw [ar_ua]
      by_cases e : j = k
      · rw [if_pos ⟨rfl, e⟩]
      · rw [if_neg (fun q => e q.2), h15 j (by omega)])
    exact ⟨S', a0, (RF.ua (by omega)).trans a1, a2⟩
/-- the run of the reference comes to what the machine comes to -/
theorem q_runs {p n fu : Nat} {K T V N : Nat → Int32} {S : SM} (hp : p < 30) (hP : VP K T V N n) (hD : PD p n K T V N S) (hfu : 100000000 ≤ fu) (h18 : ar S 18 0 = 0) : ∃ S', fX12_runs fu S (nI p) = some S' ∧ RF p S S' ∧ QC p S' (finB K T V N n) ∧ ar S' 18 0 = 0 := by
  obtain ⟨S1, a0, a1, a2, a3, a4⟩ := q_beg1 (fu := fu) hp (by omega) 4 0 (fu - 5) S rfl h18 (fun j hj => absurd hj (Nat.not_lt_zero j))
  rw [show fu - 5 + 4 + 1 = fu by omega] at a0
  obtain ⟨k, S2, b0, b1, b2, b3, b4, b5⟩ := q_loop (fu := fu) hp hP (clG_ok hP) (by omega) 81737 0 [] c0B S1 (hD.rf a1) c0_BI a2 (fun _ => ⟨a3, a4⟩) (c0_PSI hP)
  refine ⟨S2, ?_, a1.trans b2, b3, ?_⟩
  · unfold fX12_runs fX12_begins
    rw [show (0 : Int32) = nI 0 from rfl, a0, bi_some]
    have := b1 (fu - k)
    rw [show fu - k + k = fu by omega] at this
    exact this
  · have hm := rnB_mon hP (clG_ok hP) 81737 (0, [], c0B) c0_BI
    have hq : ∀ s : Cor, QC p S2 s → ∀ j, j ≤ cC s → ar S2 18 j = cS s j := by
      intro s h
      obtain ⟨x, y, h9, d, f, c, nm, R, U, sa⟩ := s
      exact h.2.2.2.2.2.2.2.2.2
    rw [hq _ b3 0 (Nat.zero_le _)]
    exact hm.2 0 (Nat.zero_le _)
