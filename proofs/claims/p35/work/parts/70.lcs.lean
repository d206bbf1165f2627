/-! the reference's longest common part
-/
theorem q_zero {p q n n' fu : Nat} {c c' : Nat → Int32} (hp : p < 30) (hq : q < 30) (hn : n ≤ 30) (hn' : n' ≤ 30) (hfu : 2000 ≤ fu) : ∀ (t k m : Nat) (S : SM), k + t = 961 → (∀ k, k < 30 → ar S 19 k = c k) → (∀ k, k < n' → ar S 19 (30 + k) = c' k) → ar S 5 p = nI n → ar S 5 q = nI n' → (∀ z, z < k → ar S 22 z = 0) → ∃ S', fX12_longestRow_L14 fu (m + t + 1) S (nI p) (nI q) (nI k) = some (nI (lcR c c' n n'), S') ∧ LG S S' := by
  intro t
  induction t with
  | zero =>
    intro k m S hk hc hc' h5 h5' hz
    have hk : k = 961 := hk
    subst hk
    show ∃ S', fX12_longestRow_L14b fu (fX12_longestRow_L14 fu m) S (nI p) (nI q) (nI 961) = some (_, S') ∧ _
    unfold fX12_longestRow_L14b
    rw [if_pos (by decide)]
    obtain ⟨S', z1, z2⟩ := q_rows (fu := fu) (c := c) (c' := c') hp hq hn hn' (by omega) n 0 (fu - n - 1) S (by omega) hc hc' h5 h5' (fun _ => ⟨fun a ha => hz _ (by omega), fun a b ha hb => by rw [show a = 0 by omega, hz _ (by omega)]; rfl, fun b hb => by rw [show b = 0 by omega, hz _ (by omega), lcR_0]; rfl⟩) (fun e => by
      rw [← e, Nat.mul_zero, Nat.zero_add, hz _ (by omega)]
      rfl)
    rw [show fu - n - 1 + n + 1 = fu by omega] at z1
    exact ⟨S', z1, z2⟩
  | succ t ih =>
    intro k m S hk hc hc' h5 h5' hz
    show ∃ S', fX12_longestRow_L14b fu (fX12_longestRow_L14 fu (m + t + 1)) S (nI p) (nI q) (nI k) = some (_, S') ∧ _
    unfold fX12_longestRow_L14b
    rw [if_neg (show ¬ (961 : Int32) ≤ nI k from fun q => by have := (nI_leI (by omega : 961 < 2 ^ 31) (by omega)).mp q; omega), if_pos (inS_ok (by decide) rfl (by show k < 961; omega) (by decide)), nI_clamp (by omega), nI_1]
    have lg : LG S (ua S 22 k 0) := ⟨rfl, fun r a1 a2 a3 a4 => funext fun z => by rw [ar_ua, if_neg (fun q => a4 q.1)], rfl⟩
    obtain ⟨S', z1, z2⟩ := ih (k + 1) m (ua S 22 k 0) (by omega) (fun j hj => by rw [ar_ua, if_neg (by omega)]; exact hc j hj) (fun j hj => by rw [ar_ua, if_neg (by omega)]; exact hc' j hj) (by rw [ar_ua, if_neg (by omega)]; exact h5) (by rw [ar_ua, if_neg (by omega)]; exact h5') (fun z hz9 => by
      rw [ar_ua]
      by_cases e : z = k
      · rw [if_pos ⟨rfl, e⟩]
      · rw [if_neg (fun q => e q.2)]
        exact hz z (by omega))
    exact ⟨S', z1, lg.trans z2⟩
theorem q_longest {p q n n' fu : Nat} {K T V N K' T' V' N' : Nat → Int32} {S : SM} (hp : p < 30) (hq : q < 30) (hP : VP K T V N n) (hP' : VP K' T' V' N' n') (hfu : 2000 ≤ fu) (hD : PD p n K T V N S) (hD' : PD q n' K' T' V' N' S) : ∃ S', fX12_longestRow fu S (nI p) (nI q) = some (nI (lcR (cdR K T V N) (cdR K' T' V' N') n n'), S') ∧ LG S S' := by
  have hn := hP.1
  have hn' := hP'.1
  obtain ⟨S1, a1, a2, a3⟩ := q_lays (fu := fu) (pl := 0) hp (by decide) hP (by omega) hD
  obtain ⟨S2, b1, b2, b3⟩ := q_lays (fu := fu) (pl := 1) hq (by decide) hP' (by omega) (hD'.lf a2)
  have h5 : ar S2 5 p = nI n := ((hD.lf a2).lf b2).1
  have h5' : ar S2 5 q = nI n' := ((hD'.lf a2).lf b2).1
  have a1 : fX12_lays fu S (nI p) 0 = some S1 := a1
  have b1 : fX12_lays fu S1 (nI q) 1 = some S2 := b1
  unfold fX12_longestRow
  rw [a1, bi_some, b1, bi_some]
  obtain ⟨S3, z1, z2⟩ := q_zero (fu := fu) (c := fun k => ar S2 19 k) (c' := fun k => ar S2 19 (30 + k)) hp hq hn hn' hfu 961 0 (fu - 962) S2 (by omega) (fun _ _ => rfl) (fun _ _ => rfl) h5 h5' (fun z h => absurd h (Nat.not_lt_zero z))
  rw [show fu - 962 + 961 + 1 = fu by omega] at z1
  refine ⟨S3, ?_, (a2.lg.trans b2.lg).trans z2⟩
  have z1 : fX12_longestRow_L14 fu fu S2 (nI p) (nI q) 0 = _ := z1
  rw [z1, lcR_cg (d := cdR K T V N) (d' := cdR K' T' V' N') (n := n) (n' := n') (fun i j hi hj => by
    have e1 : ar S2 19 i = cdR K T V N i := by
      rw [b3, if_neg (by omega), a3, if_pos (by omega)]
      rfl
    have e2 : ar S2 19 (30 + j) = cdR K' T' V' N' j := by
      rw [b3, if_pos (by omega), show 30 + j - 30 * 1 = j by omega]
    show ar S2 19 i = ar S2 19 (30 + j) ↔ _
    rw [e1, e2]) n n' (Nat.le_refl n) (Nat.le_refl n')]
