theorem NR.ua19 {S : SM} {s : Nbs} {i : Nat} {v : Int32} (h : NR S s) : NR (ua S 19 i v) s := ⟨fun j hj => by rw [ar_ua, if_neg (by omega)]; exact h.1 j hj, fun j hj => by rw [ar_ua, if_neg (by omega)]; exact h.2 j hj⟩
theorem q_lay2 {p n fu pl : Nat} {K T V N : Nat → Int32} (hp : p < 30) (hpl : pl < 2) (hP : VP K T V N n) (hfu : 10 ≤ fu) : ∀ (t k m : Nat) (S : SM), k + t = n → PD p n K T V N S → NR S (fmS K T V N k) → ∃ S', fX12_lays_L29 fu (m + t + 1) S (nI p) (nI pl) (nI k) = some S' ∧ LF S S' ∧ ∀ z, ar S' 19 z = if 30 * pl + k ≤ z ∧ z < 30 * pl + n then cdR K T V N (z - 30 * pl) else ar S 19 z := by
  have hn := hP.1
  intro t
  induction t with
  | zero =>
    intro k m S hk hD h
    have hk : k = n := hk
    subst hk
    refine ⟨S, ?_, LF.rfl9, fun z => by rw [if_neg (by omega)]⟩
    show fX12_lays_L29b fu (fX12_lays_L29 fu m) S (nI p) (nI pl) (nI k) = _
    unfold fX12_lays_L29b
    rw [if_pos (q_i5 hp), nI_clamp (by omega), hD.1, if_pos (Int32.le_refl _)]
  | succ t ih =>
    intro k m S hk hD h
    obtain ⟨S1, w1, w2, w3, w4⟩ := q_lay1 (fu := fu) hp hpl hP hD hfu (by omega : k < n) h (fX12_lays_L29 fu (m + t + 1))
    obtain ⟨S2, z1, z2, z3⟩ := ih (k + 1) m (ua S1 19 (30 * pl + k) (cdR K T V N k)) (by omega) ((hD.lf w3).lf (LF.ua (Or.inl rfl))) w2.ua19
    refine ⟨S2, w1.trans z1, (w3.trans (LF.ua (Or.inl rfl))).trans z2, fun z => ?_⟩
    rw [z3, ar_ua, w4]
    by_cases e1 : z = 30 * pl + k
    · rw [if_neg (by omega), if_pos ⟨rfl, e1⟩, if_pos (by omega), show z - 30 * pl = k by omega]
    · rw [if_neg (show ¬ (19 = 19 ∧ z = 30 * pl + k) from fun q => e1 q.2)]
      by_cases e2 : 30 * pl + (k + 1) ≤ z ∧ z < 30 * pl + n
      · rw [if_pos e2, if_pos (by omega)]
      · rw [if_neg e2, if_neg (by omega)]
theorem q_lay3 {p n fu pl : Nat} {K T V N : Nat → Int32} (hp : p < 30) (hpl : pl < 2) (hP : VP K T V N n) (hfu : 100 ≤ fu) : ∀ (t k m : Nat) (S : SM), k + t = 4 → PD p n K T V N S → (∀ j, j < k → ar S 20 j = -1 ∧ ar S 21 j = -1) → ∃ S', fX12_lays_L2 fu (m + t + 1) S (nI p) (nI pl) (nI k) = some S' ∧ LF S S' ∧ ∀ z, ar S' 19 z = if 30 * pl ≤ z ∧ z < 30 * pl + n then cdR K T V N (z - 30 * pl) else ar S 19 z := by
  have hn := hP.1
  intro t
  induction t with
  | zero =>
    intro k m S hk hD h
    have hk : k = 4 := hk
    subst hk
    show ∃ S', fX12_lays_L2b fu (fX12_lays_L2 fu m) S (nI p) (nI pl) (nI 4) = some S' ∧ _
    unfold fX12_lays_L2b
    rw [if_pos (by decide)]
    obtain ⟨S', z1, z2, z3⟩ := q_lay2 (fu := fu) hp hpl hP (by omega) n 0 (fu - n - 1) S (by omega) hD ⟨fun j hj => (h j hj).1, fun j hj => (h j hj).2⟩
    rw [show fu - n - 1 + n + 1 = fu by omega] at z1
    exact ⟨S', z1, z2, z3⟩
  | succ t ih =>
    intro k m S hk hD h
    show ∃ S', fX12_lays_L2b fu (fX12_lays_L2 fu (m + t + 1)) S (nI p) (nI pl) (nI k) = some S' ∧ _
    unfold fX12_lays_L2b
    have i20 : inS 0 20 (nI k) = true := inS_ok (by decide) rfl (by show k < 4; omega) (by decide)
    have i21 : inS 0 21 (nI k) = true := inS_ok (by decide) rfl (by show k < 4; omega) (by decide)
    rw [if_neg (show ¬ (4 : Int32) ≤ nI k from fun q => by have := (nI_leI (by omega : 4 < 2 ^ 31) (by omega)).mp q; omega), if_pos i20, if_pos i21, nI_clamp (by omega), nI_1]
    have lf : LF S (ua (ua S 20 k (-1)) 21 k (-1)) := (LF.ua (Or.inr (Or.inl rfl))).trans (LF.ua (Or.inr (Or.inr rfl)))
    obtain ⟨S', z1, z2, z3⟩ := ih (k + 1) m _ (by omega) (hD.lf lf) (fun j hj => by
      refine ⟨?_, ?_⟩
      · rw [ar_ua, if_neg (by omega), ar_ua]
        by_cases e : j = k
        · rw [if_pos ⟨rfl, e⟩]
        · rw [if_neg (fun q => e q.2)]
          exact (h j (by omega)).1
      · rw [ar_ua]
        by_cases e : j = k
        · rw [if_pos ⟨rfl, e⟩]
        · rw [if_neg (fun q => e q.2), ar_ua, if_neg (by omega)]
          exact (h j (by omega)).2)
    refine ⟨S', z1, lf.trans z2, fun z => ?_⟩
    rw [z3, ar_ua, if_neg (show ¬ (19 = 21 ∧ z = k) by omega), ar_ua, if_neg (show ¬ (19 = 20 ∧ z = k) by omega)]
/-- a form is laid in place pl -/
theorem q_lays {p n fu pl : Nat} {K T V N : Nat → Int32} {S : SM} (hp : p < 30) (hpl : pl < 2) (hP : VP K T V N n) (hfu : 100 ≤ fu) (hD : PD p n K T V N S) : ∃ S', fX12_lays fu S (nI p) (nI pl) = some S' ∧ LF S S' ∧ ∀ z, ar S' 19 z = if 30 * pl ≤ z ∧ z < 30 * pl + n then cdR K T V N (z - 30 * pl) else ar S 19 z := by
  obtain ⟨S', z1, z2⟩ := q_lay3 (fu := fu) hp hpl hP hfu 4 0 (fu - 5) S rfl hD (fun j hj => absurd hj (Nat.not_lt_zero j))
  rw [show fu - 5 + 4 + 1 = fu by omega] at z1
  exact ⟨S', z1, z2⟩
