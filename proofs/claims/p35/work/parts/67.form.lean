/-! the reference compares two forms -/
def TF (r : Int32) (P : Prop) : Prop := (r = 1 ∧ P) ∨ (r = 0 ∧ ¬ P)
theorem TF.cg {r : Int32} {P Q : Prop} (h : TF r P) (k : P ↔ Q) : TF r Q := h.elim (fun q => Or.inl ⟨q.1, k.mp q.2⟩) (fun q => Or.inr ⟨q.1, fun z => q.2 (k.mpr z)⟩)
theorem q_one0 {p n fu : Nat} {S : SM} (hp : p < 30) (hn : n ≤ 30) (h5 : ar S 5 p = nI n) : ∀ (t k m : Nat), k + t = n → fX12_oneForm_L36 fu (m + t + 1) S (nI p) 0 (nI k) = some (0, S) := by
  intro t
  induction t with
  | zero =>
    intro k m hk
    have hk : k = n := hk
    subst hk
    show fX12_oneForm_L36b fu (fX12_oneForm_L36 fu m) S (nI p) 0 (nI k) = _
    unfold fX12_oneForm_L36b
    rw [if_pos (q_i5 hp), nI_clamp (by omega), h5, if_pos (Int32.le_refl _), if_pos (Or.inl rfl)]
  | succ t ih =>
    intro k m hk
    show fX12_oneForm_L36b fu (fX12_oneForm_L36 fu (m + t + 1)) S (nI p) 0 (nI k) = _
    unfold fX12_oneForm_L36b fX12_oneForm_L75 fX12_oneForm_L76
    rw [if_pos (q_i5 hp), nI_clamp (by omega), h5, if_neg (fun q => by have := (nI_leI (by omega) (by omega)).mp q; omega), nI_1, if_pos rfl]
    exact ih (k + 1) m (by omega)
theorem q_one1 {p n fu : Nat} {S : SM} {c c' : Nat → Int32} (hp : p < 30) (hn : n ≤ 30) (h5 : ar S 5 p = nI n) (h : ∀ j, j < n → ar S 19 j = c j ∧ ar S 19 (30 + j) = c' j) : ∀ (t k m : Nat), k + t = n → ∃ r, fX12_oneForm_L36 fu (m + t + 1) S (nI p) 1 (nI k) = some (r, S) ∧ TF r (∀ j, k ≤ j → j < n → c j = c' j) := by
  intro t
  induction t with
  | zero =>
    intro k m hk
    have hk : k = n := hk
    subst hk
    refine ⟨1, ?_, Or.inl ⟨rfl, fun j a b => by omega⟩⟩
    show fX12_oneForm_L36b fu (fX12_oneForm_L36 fu m) S (nI p) 1 (nI k) = _
    unfold fX12_oneForm_L36b
    rw [if_pos (q_i5 hp), nI_clamp (by omega), h5, if_pos (Int32.le_refl _), if_pos (Or.inr rfl)]
  | succ t ih =>
    intro k m hk
    show ∃ r, fX12_oneForm_L36b fu (fX12_oneForm_L36 fu (m + t + 1)) S (nI p) 1 (nI k) = some (r, S) ∧ _
    unfold fX12_oneForm_L36b fX12_oneForm_L75 fX12_oneForm_L76
    obtain ⟨e1, e2⟩ := h k (by omega)
    rw [if_pos (q_i5 hp), nI_clamp (by omega), h5, if_neg (fun q => by have := (nI_leI (by omega) (by omega)).mp q; omega), nI_1, if_neg (by decide), if_pos (inS_ok (by decide) rfl (by show k < 60; omega) (by decide)), show (30 : Int32) + nI k = nI (30 + k) from nI_add 30 k, if_pos (inS_ok (by decide) rfl (by show 30 + k < 60; omega) (by decide)), nI_clamp (by omega), nI_clamp (by omega), e1, e2]
    by_cases e : c k = c' k
    · rw [if_pos e]
      obtain ⟨r, w1, w2⟩ := ih (k + 1) m (by omega)
      refine ⟨r, w1, w2.cg ⟨fun q j a b => ?_, fun q j a b => q j (by omega) b⟩⟩
      by_cases ej : j = k
      · rw [ej]; exact e
      · exact q j (by omega) b
    · rw [if_neg e, q_one0 hp hn h5 t (k + 1) m (by omega)]
      exact ⟨0, rfl, Or.inr ⟨rfl, fun q => e (q k (Nat.le_refl k) (by omega))⟩⟩
theorem q_oneForm {p q n n' fu : Nat} {K T V N K' T' V' N' : Nat → Int32} {S : SM} (hp : p < 30) (hq : q < 30) (hP : VP K T V N n) (hP' : VP K' T' V' N' n') (hfu : 100 ≤ fu) (hD : PD p n K T V N S) (hD' : PD q n' K' T' V' N' S) : ∃ r S', fX12_oneForm fu S (nI p) (nI q) = some (r, S') ∧ LF S S' ∧ TF r (n = n' ∧ ∀ j, j < n → cdR K T V N j = cdR K' T' V' N' j) := by
  have hn := hP.1
  have hn' := hP'.1
  obtain ⟨S1, a1, a2, a3⟩ := q_lays (fu := fu) (pl := 0) hp (by decide) hP hfu hD
  obtain ⟨S2, b1, b2, b3⟩ := q_lays (fu := fu) (pl := 1) hq (by decide) hP' hfu (hD'.lf a2)
  have h5 : ar S2 5 p = nI n := ((hD.lf a2).lf b2).1
  have h5' : ar S2 5 q = nI n' := ((hD'.lf a2).lf b2).1
  have a1 : fX12_lays fu S (nI p) 0 = some S1 := a1
  have b1 : fX12_lays fu S1 (nI q) 1 = some S2 := b1
  unfold fX12_oneForm fX12_oneForm_L32
  rw [a1, bi_some, b1, bi_some, if_pos (q_i5 hp), if_pos (q_i5 hq), nI_clamp (by omega), nI_clamp (by omega), h5, h5']
  by_cases e : n = n'
  · rw [if_pos (by rw [e])]
    obtain ⟨r, w1, w2⟩ := q_one1 (fu := fu) (S := S2) (c := cdR K T V N) (c' := cdR K' T' V' N') hp hn h5 (fun j hj => by
      refine ⟨?_, ?_⟩
      · rw [b3, if_neg (by omega), a3, if_pos (by omega)]
        rfl
      · rw [b3, if_pos (by omega), show 30 + j - 30 * 1 = j by omega]) n 0 (fu - n - 1) (by omega)
    rw [show fu - n - 1 + n + 1 = fu by omega] at w1
    exact ⟨r, S2, w1, a2.trans b2, w2.cg ⟨fun z => ⟨e, fun j hj => z j (Nat.zero_le j) hj⟩, fun z j _ hj => z.2 j hj⟩⟩
  · rw [if_neg (fun w => e ((nI_eq (by omega) (by omega)).mp w))]
    have k := q_one0 (fu := fu) hp hn h5 n 0 (fu - n - 1) (by omega)
    rw [show fu - n - 1 + n + 1 = fu by omega] at k
    exact ⟨0, S2, k, a2.trans b2, Or.inr ⟨rfl, fun w => e w.1⟩⟩
