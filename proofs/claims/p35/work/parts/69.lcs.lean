/-! the reference's whole table -/
theorem TI.cell {n' i j : Nat} {c c' : Nat → Int32} {S : SM} (hi : i < 30) (hn : n' ≤ 30) (hj : j < n') (h : TI n' c c' i j S) : TI n' c c' i (j + 1) (ua S 22 (31 * (i + 1) + (j + 1)) (nI (lcR c c' (i + 1) (j + 1)))) := by
  refine ⟨fun a ha => ?_, fun a b ha hb => ?_, fun b hb => ?_⟩
  · rw [ar_ua, if_neg (by omega)]; exact h.1 a ha
  · rw [ar_ua, if_neg (by omega)]; exact h.2.1 a b ha hb
  · rw [ar_ua]
    by_cases e : b = j + 1
    · rw [if_pos (by omega), e]
    · rw [if_neg (by omega)]; exact h.2.2 b (by omega)
theorem TI.next {n' i : Nat} {c c' : Nat → Int32} {S : SM} (hi : i + 1 < 30) (h : TI n' c c' i n' S) : TI n' c c' (i + 1) 0 S := by
  refine ⟨h.1, fun a b ha hb => ?_, fun b hb => ?_⟩
  · by_cases e : a = i + 1
    · rw [e]; exact h.2.2 b hb
    · exact h.2.1 a b (by omega) hb
  · have hb : b = 0 := Nat.le_zero.mp hb
    rw [hb, Nat.add_zero, h.1 (i + 1 + 1) (by omega), lcR_0]
    rfl
theorem q_row {n' fu i : Nat} {c c' : Nat → Int32} {x1 x2 : Int32} (rec36 : SM → Int32 → Int32 → Int32 → Option (Int32 × SM)) (hi : i < 30) (hn : n' ≤ 30) (i5 : inS 0 5 x2 = true) : ∀ (t j m : Nat) (S : SM), j + t = n' → (∀ k, k < 30 → ar S 19 k = c k) → (∀ k, k < n' → ar S 19 (30 + k) = c' k) → ar S 5 x2.toNatClampNeg = nI n' → TI n' c c' i j S → ∃ S', fX12_longestRow_L49 fu rec36 (m + t + 1) S x1 x2 (nI i) (nI j) = rec36 S' x1 x2 (nI (i + 1)) ∧ TI n' c c' i n' S' ∧ LG S S' ∧ ar S' 19 = ar S 19 := by
  intro t
  induction t with
  | zero =>
    intro j m S hj hc hc' h5 hT
    have hj : j = n' := hj
    subst hj
    refine ⟨S, ?_, hT, LG.rfl9, rfl⟩
    show fX12_longestRow_L49b fu rec36 (fX12_longestRow_L49 fu rec36 m) S x1 x2 (nI i) (nI j) = _
    unfold fX12_longestRow_L49b
    rw [if_pos i5, h5, if_pos (Int32.le_refl _), nI_1]
  | succ t ih =>
    intro j m S hj hc hc' h5 hT
    have lg : LG S (ua S 22 (31 * (i + 1) + (j + 1)) (nI (lcR c c' (i + 1) (j + 1)))) := ⟨rfl, fun r a1 a2 a3 a4 => funext fun z => by rw [ar_ua, if_neg (fun q => a4 q.1)], rfl⟩
    have l19 : ar (ua S 22 (31 * (i + 1) + (j + 1)) (nI (lcR c c' (i + 1) (j + 1)))) 19 = ar S 19 := funext fun z => by rw [ar_ua, if_neg (by omega)]
    obtain ⟨S', z1, z2, z3, z4⟩ := ih (j + 1) m _ (by omega) (fun k hk => by rw [l19]; exact hc k hk) (fun k hk => by rw [l19]; exact hc' k hk) (by rw [lg.2.1 5 (by omega) (by omega) (by omega) (by omega)]; exact h5) (hT.cell hi hn (by omega))
    refine ⟨S', ?_, z2, lg.trans z3, z4.trans l19⟩
    rw [← z1]
    exact q_cell hi (by omega) hn hc hc' hT rec36 _ i5 h5
theorem q_rows {p q n n' fu : Nat} {c c' : Nat → Int32} (hp : p < 30) (hq : q < 30) (hn : n ≤ 30) (hn' : n' ≤ 30) (hfu : 100 ≤ fu) : ∀ (t i m : Nat) (S : SM), i + t = n → (∀ k, k < 30 → ar S 19 k = c k) → (∀ k, k < n' → ar S 19 (30 + k) = c' k) → ar S 5 p = nI n → ar S 5 q = nI n' → (i < 30 → TI n' c c' i 0 S) → (i = n → ar S 22 (31 * n + n') = nI (lcR c c' n n')) → ∃ S', fX12_longestRow_L36 fu (m + t + 1) S (nI p) (nI q) (nI i) = some (nI (lcR c c' n n'), S') ∧ LG S S' := by
  intro t
  induction t with
  | zero =>
    intro i m S hi hc hc' h5 h5' hT hL
    have hi : i = n := hi
    refine ⟨S, ?_, LG.rfl9⟩
    show fX12_longestRow_L36b fu (fX12_longestRow_L36 fu m) S (nI p) (nI q) (nI i) = _
    unfold fX12_longestRow_L36b
    rw [if_pos (q_i5 hp), nI_clamp (show p < 2 ^ 31 by omega), h5, hi, if_pos (Int32.le_refl _), if_pos (q_i5 hp), if_pos (q_i5 hq), nI_clamp (show q < 2 ^ 31 by omega), h5', i31, if_pos (inS_ok (by decide) rfl (by show 31 * n + n' < 961; omega) (by decide)), nI_clamp (by omega), hL hi]
  | succ t ih =>
    intro i m S hi hc hc' h5 h5' hT hL
    show ∃ S', fX12_longestRow_L36b fu (fX12_longestRow_L36 fu (m + t + 1)) S (nI p) (nI q) (nI i) = some (_, S') ∧ _
    unfold fX12_longestRow_L36b
    rw [if_pos (q_i5 hp), nI_clamp (show p < 2 ^ 31 by omega), h5, if_neg (fun q => by have := (nI_leI (by omega) (by omega)).mp q; omega)]
    have cq : (nI q).toNatClampNeg = q := nI_clamp (by omega)
    obtain ⟨S1, z1, z2, z3, z4⟩ := q_row (fu := fu) (x1 := nI p) (x2 := nI q) (fX12_longestRow_L36 fu (m + t + 1)) (by omega : i < 30) hn' (q_i5 hq) n' 0 (fu - n' - 1) S (by omega) hc hc' (by rw [cq]; exact h5') (hT (by omega))
    rw [show fu - n' - 1 + n' + 1 = fu by omega] at z1
    have l5 : ar S1 5 = ar S 5 := z3.2.1 5 (by omega) (by omega) (by omega) (by omega)
    obtain ⟨S2, w1, w2⟩ := ih (i + 1) m S1 (by omega) (fun k hk => by rw [z4]; exact hc k hk) (fun k hk => by rw [z4]; exact hc' k hk) (by rw [l5]; exact h5) (by rw [l5]; exact h5') (fun hlt => z2.next hlt) (fun e => by rw [← e]; exact z2.2.2 n' (Nat.le_refl n'))
    exact ⟨S2, z1.trans w1, z3.trans w2⟩
