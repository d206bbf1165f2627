/-! THE CLASS compares forms -/
theorem d_hf17 {fu a b fa fb n : Nat} {c c' : Nat → Int32} {X : Mem} (hn : n ≤ 30) (h1 : mK X a = some (5, 0)) (h2 : mR X 504 a = some fa) (h3 : mK X fa = some (20, n)) (h4 : mK X b = some (5, 0)) (h5 : mR X 504 b = some fb) (h6 : mK X fb = some (20, n)) (h7 : ∀ j, j < n → aI X fa j = c j) (h8 : ∀ j, j < n → aI X fb j = c' j) : ∀ (t k m : Nat), k + t = n → ∃ r, fX5_hasFormOf_L17 fu X (m + t + 1) a b (nI k) = some r ∧ TF r (∀ j, k ≤ j → j < n → c j = c' j) := by
  intro t
  induction t with
  | zero =>
    intro k m hk
    have hk : k = n := hk
    subst hk
    refine ⟨1, ?_, Or.inl ⟨rfl, fun j a b => by omega⟩⟩
    show fX5_hasFormOf_L17b fu X (fX5_hasFormOf_L17 fu X m) a b (nI k) = _
    unfold fX5_hasFormOf_L17b
    rw [if_pos h1, h2, bi_some, alen_of h3 (by decide), bi_some, if_pos (Int32.le_refl _)]
  | succ t ih =>
    intro k m hk
    show ∃ r, fX5_hasFormOf_L17b fu X (fX5_hasFormOf_L17 fu X (m + t + 1)) a b (nI k) = some r ∧ _
    unfold fX5_hasFormOf_L17b
    rw [if_pos h1, h2, bi_some, alen_of h3 (by decide), bi_some, if_neg (fun q => by have := (nI_leI (by omega) (by omega)).mp q; omega), if_pos h4, h5, bi_some, alen_of h6 (by decide), bi_some, if_neg (fun q => by have := (nI_leI (by omega) (by omega)).mp q; omega), bi_some, if_pos (inb_of (t := 0) h3 (by omega : k < n) (by omega)), bi_some, if_pos (inb_of (t := 0) h6 (by omega : k < n) (by omega)), nI_clamp (by omega), h7 k (by omega), h8 k (by omega), nI_1]
    by_cases e : c k = c' k
    · rw [if_pos e]
      obtain ⟨r, w1, w2⟩ := ih (k + 1) m (by omega)
      refine ⟨r, w1, w2.cg ⟨fun q j a b => ?_, fun q j a b => q j (by omega) b⟩⟩
      by_cases ej : j = k
      · rw [ej]; exact e
      · exact q j (by omega) b
    · rw [if_neg e]
      exact ⟨0, rfl, Or.inr ⟨rfl, fun q => e (q k (Nat.le_refl k) (by omega))⟩⟩
theorem d_hasForm {fu a b fa fb n n' : Nat} {c c' : Nat → Int32} {X : Mem} (hfu : 100 ≤ fu) (hn : n ≤ 30) (hn' : n' ≤ 30) (h1 : mK X a = some (5, 0)) (h2 : mR X 504 a = some fa) (h3 : mK X fa = some (20, n)) (h4 : mK X b = some (5, 0)) (h5 : mR X 504 b = some fb) (h6 : mK X fb = some (20, n')) (h7 : ∀ j, j < n → aI X fa j = c j) (h8 : ∀ j, j < n' → aI X fb j = c' j) : ∃ r, fX5_hasFormOf fu X a (some b) = some r ∧ TF r (n = n' ∧ ∀ j, j < n → c j = c' j) := by
  unfold fX5_hasFormOf
  rw [if_pos h1, h2, bi_some, alen_of h3 (by decide), bi_some, bi_some, if_pos h4, h5, bi_some, alen_of h6 (by decide), bi_some]
  by_cases e : n = n'
  · subst e
    rw [if_pos rfl]
    obtain ⟨r, w1, w2⟩ := d_hf17 (fu := fu) hn h1 h2 h3 h4 h5 h6 h7 h8 n 0 (fu - n - 1) (by omega)
    rw [show fu - n - 1 + n + 1 = fu by omega] at w1
    exact ⟨r, w1, w2.cg ⟨fun z => ⟨rfl, fun j hj => z j (Nat.zero_le j) hj⟩, fun z j _ hj => z.2 j hj⟩⟩
  · rw [if_neg (fun w => e ((nI_eq (by omega) (by omega)).mp w))]
    exact ⟨0, rfl, Or.inr ⟨rfl, fun w => e w.1⟩⟩
/-! the desk -/
theorem mR_wR {X : Mem} {k a j b : Nat} {v : Option Nat} : mR (wR X k a v) j b = if j = k ∧ b = a then v else mR X j b := (Eq.refl _).trans (Eq.refl _)
theorem e_fill18 {fu de u v f2 n' i : Nat} {c c' : Nat → Int32} (hn : n' ≤ 30) (hi : i < 30) (huv : u ≠ v) (hfv : f2 ≠ v) : ∀ (t j m : Nat) (X : Mem), j + t = n' → mK X de = some (0, 0) → mR X 0 de = some u → mR X 1 de = some v → mK X u = some (20, 31) → mK X v = some (20, 31) → mK X f2 = some (20, n') → (∀ b, b < n' → aI X f2 b = c' b) → (∀ b, b ≤ n' → aI X u b = nI (lcR c c' i b)) → (∀ b, b ≤ j → aI X v b = nI (lcR c c' (i + 1) b)) →
    ∃ X', fX0_fillBelow_L18 fu (m + t + 1) X de (c i) (some f2) (nI n') (nI (j + 1)) = some X' ∧ AFr v X X' ∧ ∀ b, b ≤ n' → aI X' v b = nI (lcR c c' (i + 1) b) := by
  intro t
  induction t with
  | zero =>
    intro j m X hj h1 h2 h3 h4 h5 h6 h7 h8 h9
    have hj : j = n' := hj
    subst hj
    refine ⟨X, ?_, AFr.rfl9, h9⟩
    show fX0_fillBelow_L18b fu (fX0_fillBelow_L18 fu m) X de (c i) (some f2) (nI j) (nI (j + 1)) = _
    unfold fX0_fillBelow_L18b
    rw [if_pos ((nI_ltI (by omega) (by omega)).mpr (by omega))]
  | succ t ih =>
    intro j m X hj h1 h2 h3 h4 h5 h6 h7 h8 h9
    have b1 := (lcR_le (c := c) (c' := c') i (j + 1)).1
    have b2 := (lcR_le (c := c) (c' := c') (i + 1) j).1
    have b3 := (lcR_le (c := c) (c' := c') i j).1
    show ∃ X', fX0_fillBelow_L18b fu (fX0_fillBelow_L18 fu (m + t + 1)) X de (c i) (some f2) (nI n') (nI (j + 1)) = some X' ∧ _
    unfold fX0_fillBelow_L18b fX0_fillBelow_L108
    have iu : ∀ z, z ≤ 30 → inb X 0 u (nI z) = true := fun z hz => inb_of (t := 0) h4 (by omega) (by omega)
    have iv : ∀ z, z ≤ 30 → inb X 0 v (nI z) = true := fun z hz => inb_of (t := 0) h5 (by omega) (by omega)
    have nx : ∀ w : Int32, w = nI (lcR c c' (i + 1) (j + 1)) → ∃ X', fX0_fillBelow_L18 fu (m + t + 1) (sI X v (j + 1) w) de (c i) (some f2) (nI n') (nI (j + 1 + 1)) = some X' ∧ AFr v X X' ∧ ∀ b, b ≤ n' → aI X' v b = nI (lcR c c' (i + 1) b) := by
      intro w hw
      have fr : AFr v X (sI X v (j + 1) w) := AFr.sI
      obtain ⟨X', z1, z2, z3⟩ := ih (j + 1) m (sI X v (j + 1) w) (by omega) h1 h2 h3 h4 h5 h6 (fun b hb => by rw [fr.2.2.2.2.2.2 f2 hfv]; exact h7 b hb) (fun b hb => by rw [fr.2.2.2.2.2.2 u huv]; exact h8 b hb) (fun b hb => by
        rw [aI_sI]
        by_cases e : b = j + 1
        · rw [if_pos ⟨rfl, e⟩, e, hw]
        · rw [if_neg (fun q => e q.2)]
          exact h9 b (by omega))
      exact ⟨X', z1, fr.trans z2, z3⟩
    rw [if_neg (fun q => by have := (nI_ltI (by omega) (by omega)).mp q; omega), if_pos h1, h2, bi_some, alen_of h4 (by decide), bi_some, if_neg (fun q => by have := (nI_leI (by omega) (by omega)).mp q; omega), h3, bi_some, alen_of h5 (by decide), bi_some, if_neg (fun q => by have := (nI_leI (by omega) (by omega)).mp q; omega), bi_some, alen_of h6 (by decide), bi_some, if_neg (fun q => by have := (nI_ltI (by omega) (by omega)).mp q; omega), nI_pred, if_pos (inb_of (t := 0) h6 (by omega : j < n') (by omega)), nI_clamp (show j < 2 ^ 31 by omega), nI_clamp (show j + 1 < 2 ^ 31 by omega), h7 j (by omega), nI_1]
    by_cases e : c i = c' j
    · rw [if_pos e.symm, bi_some, if_pos (iu j (by omega)), bi_some, if_pos (iv (j + 1) (by omega)), h8 j (by omega)]
      exact nx _ (by rw [nI_1, lcR_s, if_pos e])
    · rw [if_neg (fun q => e q.symm), bi_some, if_pos (iu (j + 1) (by omega)), bi_some, if_pos (iv j (by omega)), h8 (j + 1) (by omega), h9 j (Nat.le_refl j)]
      unfold fJ9_max_7cf53
      by_cases e2 : lcR c c' i (j + 1) < lcR c c' (i + 1) j
      · rw [if_pos ((nI_ltI (by omega) (by omega)).mpr e2), bi_some, if_pos (iv (j + 1) (by omega))]
        exact nx _ (by rw [lcR_s, if_neg e, Nat.max_eq_right (by omega)])
      · rw [if_neg (fun q => e2 ((nI_ltI (by omega) (by omega)).mp q)), bi_some, if_pos (iv (j + 1) (by omega))]
        exact nx _ (by rw [lcR_s, if_neg e, Nat.max_eq_left (by omega)])
theorem e_fill {fu de u v f2 n' i : Nat} {c c' : Nat → Int32} {X : Mem} (hfu : 100 ≤ fu) (hn : n' ≤ 30) (hi : i < 30) (huv : u ≠ v) (hfv : f2 ≠ v) (h1 : mK X de = some (0, 0)) (h2 : mR X 0 de = some u) (h3 : mR X 1 de = some v) (h4 : mK X u = some (20, 31)) (h5 : mK X v = some (20, 31)) (h6 : mK X f2 = some (20, n')) (h7 : ∀ b, b < n' → aI X f2 b = c' b) (h8 : ∀ b, b ≤ n' → aI X u b = nI (lcR c c' i b)) :
    ∃ X', fX0_fillBelow fu X de (c i) (some f2) (nI n') = some X' ∧ AFr v X X' ∧ ∀ b, b ≤ n' → aI X' v b = nI (lcR c c' (i + 1) b) := by
  unfold fX0_fillBelow fX0_fillBelow_L15
  have fr : AFr v X (sI X v 0 0) := AFr.sI
  obtain ⟨X', z1, z2, z3⟩ := e_fill18 (fu := fu) (de := de) (c := c) (c' := c') hn hi huv hfv n' 0 (fu - n' - 1) (sI X v 0 0) (by omega) h1 h2 h3 h4 h5 h6 (fun b hb => by rw [fr.2.2.2.2.2.2 f2 hfv]; exact h7 b hb) (fun b hb => by rw [fr.2.2.2.2.2.2 u huv]; exact h8 b hb) (fun b hb => by
    have hb : b = 0 := Nat.le_zero.mp hb
    rw [hb, lcR_0, aI_sI, if_pos ⟨rfl, rfl⟩]
    rfl)
  rw [show fu - n' - 1 + n' + 1 = fu by omega] at z1
  have i0 : inb X 0 v 0 = true := inb_of (t := 0) (j := 0) h5 (by omega) (by omega)
  rw [if_pos h1, h3, bi_some, alen_of h5 (by decide), bi_some, if_neg (show ¬ nI 31 ≤ 0 by decide), bi_some, if_pos i0]
  exact ⟨X', z1, fr.trans z2, z3⟩
/-- what the desk leaves -/
def DFr (de d1 d2 : Nat) (X X1 : Mem) : Prop := mK X1 = mK X ∧ mI X1 = mI X ∧ aR X1 = aR X ∧ aJ X1 = aJ X ∧ mZ X1 = mZ X ∧ (∀ k a, a ≠ de → mR X1 k a = mR X k a) ∧ ∀ a, a ≠ d1 → a ≠ d2 → aI X1 a = aI X a
theorem DFr.rfl9 {de d1 d2 : Nat} {X : Mem} : DFr de d1 d2 X X := ⟨rfl, rfl, rfl, rfl, rfl, fun _ _ _ => rfl, fun _ _ _ => rfl⟩
theorem DFr.trans {de d1 d2 : Nat} {X X1 X2 : Mem} (h : DFr de d1 d2 X X1) (k : DFr de d1 d2 X1 X2) : DFr de d1 d2 X X2 := ⟨k.1.trans h.1, k.2.1.trans h.2.1, k.2.2.1.trans h.2.2.1, k.2.2.2.1.trans h.2.2.2.1, k.2.2.2.2.1.trans h.2.2.2.2.1, fun i a ha => (k.2.2.2.2.2.1 i a ha).trans (h.2.2.2.2.2.1 i a ha), fun a h1 h2 => (k.2.2.2.2.2.2 a h1 h2).trans (h.2.2.2.2.2.2 a h1 h2)⟩
theorem DFr.of {de d1 d2 v : Nat} {X X1 : Mem} (h : AFr v X X1) (hv : v = d1 ∨ v = d2) : DFr de d1 d2 X X1 := ⟨h.1, h.2.1, h.2.2.2.1, h.2.2.2.2.1, h.2.2.2.2.2.1, fun _ _ _ => by rw [h.2.2.1], fun a h1 h2 => h.2.2.2.2.2.2 a (fun q => hv.elim (fun z => h1 (q.trans z)) (fun z => h2 (q.trans z)))⟩
theorem DFr.wR {de d1 d2 k : Nat} {X : Mem} {v : Option Nat} : DFr de d1 d2 X (wR X k de v) := ⟨rfl, rfl, rfl, rfl, rfl, fun i a ha => if_neg (fun q => ha q.2), fun _ _ _ => rfl⟩
theorem DFr.fm {de d1 d2 : Nat} {X X1 : Mem} (h : DFr de d1 d2 X X1) : Fm (fun b => b = de ∨ b = d1 ∨ b = d2) X X1 := ⟨by rw [h.2.2.2.2.1]; exact Nat.le_refl _, fun a _ => by rw [h.1], fun a _ hp => ⟨fun k _ => by rw [h.2.1], fun k => h.2.2.2.2.2.1 k a (fun q => hp (Or.inl q)), h.2.2.2.2.2.2 a (fun q => hp (Or.inr (Or.inl q))) (fun q => hp (Or.inr (Or.inr q))), by rw [h.2.2.1], by rw [h.2.2.2.1]⟩⟩
theorem e_long51 {fu de d1 d2 f1 f2 n n' : Nat} {c c' : Nat → Int32} (hfu : 200 ≤ fu) (hn : n ≤ 30) (hn' : n' ≤ 30) (h12 : d1 ≠ d2) (a1 : f1 ≠ d1) (a2 : f1 ≠ d2) (a3 : f2 ≠ d1) (a4 : f2 ≠ d2) : ∀ (t i m : Nat) (X : Mem) (u v : Nat), i + t = n → (u = d1 ∧ v = d2) ∨ (u = d2 ∧ v = d1) → mK X de = some (0, 0) → mR X 0 de = some u → mR X 1 de = some v → mK X d1 = some (20, 31) → mK X d2 = some (20, 31) → mK X f1 = some (20, n) → mK X f2 = some (20, n') → (∀ b, b < n → aI X f1 b = c b) → (∀ b, b < n' → aI X f2 b = c' b) → (∀ b, b ≤ n' → aI X u b = nI (lcR c c' i b)) →
    ∃ X' u' v', fX0_longestCommon_L51 fu (m + t + 1) X de (some f1) f2 (nI n') (nI i) = some (nI (lcR c c' n n'), X') ∧ DFr de d1 d2 X X' ∧ ((u' = d1 ∧ v' = d2) ∨ (u' = d2 ∧ v' = d1)) ∧ mR X' 0 de = some u' ∧ mR X' 1 de = some v' := by
  intro t
  induction t with
  | zero =>
    intro i m X u v hi huv h1 h2 h3 k1 k2 k3 k4 h7 h8 h9
    have hi : i = n := hi
    subst hi
    have ku : mK X u = some (20, 31) := by rcases huv with ⟨rfl, -⟩ | ⟨rfl, -⟩ <;> assumption
    refine ⟨X, u, v, ?_, DFr.rfl9, huv, h2, h3⟩
    show fX0_longestCommon_L51b fu (fX0_longestCommon_L51 fu m) X de (some f1) f2 (nI n') (nI i) = _
    unfold fX0_longestCommon_L51b
    rw [bi_some, alen_of k3 (by decide), bi_some, if_pos (Int32.le_refl _), if_neg (nI_pos (by omega)), if_pos h1, h2, bi_some, alen_of ku (by decide), bi_some, if_neg (fun q => by have := (nI_leI (by omega) (by omega)).mp q; omega), bi_some, if_pos (inb_of (t := 0) ku (by omega : n' < 31) (by omega)), nI_clamp (by omega), h9 n' (Nat.le_refl _)]
  | succ t ih =>
    intro i m X u v hi huv h1 h2 h3 k1 k2 k3 k4 h7 h8 h9
    have ku : mK X u = some (20, 31) := by rcases huv with ⟨rfl, -⟩ | ⟨rfl, -⟩ <;> assumption
    have kv : mK X v = some (20, 31) := by rcases huv with ⟨-, rfl⟩ | ⟨-, rfl⟩ <;> assumption
    have nuv : u ≠ v := by rcases huv with ⟨rfl, rfl⟩ | ⟨rfl, rfl⟩; exact h12; exact h12.symm
    have n1v : f1 ≠ v := by rcases huv with ⟨-, rfl⟩ | ⟨-, rfl⟩ <;> assumption
    have n2v : f2 ≠ v := by rcases huv with ⟨-, rfl⟩ | ⟨-, rfl⟩ <;> assumption
    have vd : v = d1 ∨ v = d2 := huv.elim (fun q => Or.inr q.2) (fun q => Or.inl q.2)
    obtain ⟨X1, z1, z2, z3⟩ := e_fill (fu := fu) (c := c) (c' := c') (by omega) hn' (by omega : i < 30) nuv n2v h1 h2 h3 ku kv k4 h8 h9
    show ∃ X' u' v', fX0_longestCommon_L51b fu (fX0_longestCommon_L51 fu (m + t + 1)) X de (some f1) f2 (nI n') (nI i) = some (_, X') ∧ _
    unfold fX0_longestCommon_L51b
    rw [bi_some, alen_of k3 (by decide), bi_some, if_neg (fun q => by have := (nI_leI (by omega) (by omega)).mp q; omega), if_pos (inb_of (t := 0) k3 (by omega : i < n) (by omega)), if_pos h1, nI_clamp (by omega), h7 i (by omega), z1, bi_some, if_pos (by rw [z2.1]; exact h1), z2.2.2.1, h2, h3, nI_1]
    have f1' : DFr de d1 d2 X (wR (wR X1 0 de (some v)) 1 de (some u)) := ((DFr.of z2 vd).trans DFr.wR).trans DFr.wR
    have r0 : mR (wR (wR X1 0 de (some v)) 1 de (some u)) 0 de = some v := by rw [mR_wR, if_neg (by omega), mR_wR, if_pos ⟨rfl, rfl⟩]
    have r1 : mR (wR (wR X1 0 de (some v)) 1 de (some u)) 1 de = some u := by rw [mR_wR, if_pos ⟨rfl, rfl⟩]
    have av : ∀ b, aI (wR (wR X1 0 de (some v)) 1 de (some u)) b = aI X1 b := fun b => rfl
    have ak : mK (wR (wR X1 0 de (some v)) 1 de (some u)) = mK X := z2.1
    generalize wR (wR X1 0 de (some v)) 1 de (some u) = X2 at f1' r0 r1 av ak ⊢
    obtain ⟨X', u', v', w1, w2, w3, w4, w5⟩ := ih (i + 1) m X2 v u (by omega) (huv.elim (fun q => Or.inr ⟨q.2, q.1⟩) (fun q => Or.inl ⟨q.2, q.1⟩)) (by rw [ak]; exact h1) r0 r1 (by rw [ak]; exact k1) (by rw [ak]; exact k2) (by rw [ak]; exact k3) (by rw [ak]; exact k4) (fun b hb => by rw [av, z2.2.2.2.2.2.2 f1 n1v]; exact h7 b hb) (fun b hb => by rw [av, z2.2.2.2.2.2.2 f2 n2v]; exact h8 b hb) (fun b hb => by rw [av]; exact z3 b hb)
    exact ⟨X', u', v', w1, f1'.trans w2, w3, w4, w5⟩
theorem e_long24 {fu de d1 d2 f1 f2 n n' : Nat} {c c' : Nat → Int32} (hfu : 200 ≤ fu) (hn : n ≤ 30) (hn' : n' ≤ 30) (h12 : d1 ≠ d2) (a1 : f1 ≠ d1) (a2 : f1 ≠ d2) (a3 : f2 ≠ d1) (a4 : f2 ≠ d2) {u v : Nat} (huv : (u = d1 ∧ v = d2) ∨ (u = d2 ∧ v = d1)) : ∀ (t i m : Nat) (X : Mem), i + t = 31 → mK X de = some (0, 0) → mR X 0 de = some u → mR X 1 de = some v → mK X d1 = some (20, 31) → mK X d2 = some (20, 31) → mK X f1 = some (20, n) → mK X f2 = some (20, n') → (∀ b, b < n → aI X f1 b = c b) → (∀ b, b < n' → aI X f2 b = c' b) → (∀ b, b < i → aI X u b = 0) →
    ∃ X' u' v', fX0_longestCommon_L24 fu (m + t + 1) X de (some f1) f2 (nI n') (nI i) = some (nI (lcR c c' n n'), X') ∧ DFr de d1 d2 X X' ∧ ((u' = d1 ∧ v' = d2) ∨ (u' = d2 ∧ v' = d1)) ∧ mR X' 0 de = some u' ∧ mR X' 1 de = some v' := by
  intro t
  have ud : u = d1 ∨ u = d2 := huv.elim (fun q => Or.inl q.1) (fun q => Or.inr q.1)
  have n1u : f1 ≠ u := by rcases ud with rfl | rfl <;> assumption
  have n2u : f2 ≠ u := by rcases ud with rfl | rfl <;> assumption
  induction t with
  | zero =>
    intro i m X hi h1 h2 h3 k1 k2 k3 k4 h7 h8 h9
    have hi : i = 31 := hi
    subst hi
    have ku : mK X u = some (20, 31) := by rcases ud with rfl | rfl <;> assumption
    show ∃ X' u' v', fX0_longestCommon_L24b fu (fX0_longestCommon_L24 fu m) X de (some f1) f2 (nI n') (nI 31) = some (_, X') ∧ _
    unfold fX0_longestCommon_L24b
    rw [if_pos h1, h2, bi_some, alen_of ku (by decide), bi_some, if_pos (Int32.le_refl _)]
    have k := e_long51 (fu := fu) (de := de) (c := c) (c' := c') hfu hn hn' h12 a1 a2 a3 a4 n 0 (fu - n - 1) X u v (by omega) huv h1 h2 h3 k1 k2 k3 k4 h7 h8 (fun b hb => by rw [h9 b (by omega)]; rfl)
    rw [show fu - n - 1 + n + 1 = fu by omega] at k
    exact k
  | succ t ih =>
    intro i m X hi h1 h2 h3 k1 k2 k3 k4 h7 h8 h9
    have ku : mK X u = some (20, 31) := by rcases ud with rfl | rfl <;> assumption
    show ∃ X' u' v', fX0_longestCommon_L24b fu (fX0_longestCommon_L24 fu (m + t + 1)) X de (some f1) f2 (nI n') (nI i) = some (_, X') ∧ _
    unfold fX0_longestCommon_L24b
    rw [if_pos h1, h2, bi_some, alen_of ku (by decide), bi_some, if_neg (fun q => by have := (nI_leI (by omega) (by omega)).mp q; omega), bi_some, if_pos (inb_of (t := 0) ku (by omega : i < 31) (by omega)), nI_clamp (by omega), nI_1]
    have fr : AFr u X (sI X u i 0) := AFr.sI
    obtain ⟨X', u', v', w1, w2, w3⟩ := ih (i + 1) m (sI X u i 0) (by omega) h1 h2 h3 k1 k2 k3 k4 (fun b hb => by rw [fr.2.2.2.2.2.2 f1 n1u]; exact h7 b hb) (fun b hb => by rw [fr.2.2.2.2.2.2 f2 n2u]; exact h8 b hb) (fun b hb => by
      rw [aI_sI]
      by_cases e : b = i
      · rw [if_pos ⟨rfl, e⟩]
      · rw [if_neg (fun q => e q.2)]
        exact h9 b (by omega))
    exact ⟨X', u', v', w1, (DFr.of fr ud).trans w2, w3⟩
theorem e_longest {fu de d1 d2 f1 f2 n n' u v : Nat} {c c' : Nat → Int32} {X : Mem} (hfu : 300 ≤ fu) (hn : n ≤ 30) (hn' : n' ≤ 30) (h12 : d1 ≠ d2) (a1 : f1 ≠ d1) (a2 : f1 ≠ d2) (a3 : f2 ≠ d1) (a4 : f2 ≠ d2) (huv : (u = d1 ∧ v = d2) ∨ (u = d2 ∧ v = d1)) (h1 : mK X de = some (0, 0)) (h2 : mR X 0 de = some u) (h3 : mR X 1 de = some v) (k1 : mK X d1 = some (20, 31)) (k2 : mK X d2 = some (20, 31)) (k3 : mK X f1 = some (20, n)) (k4 : mK X f2 = some (20, n')) (h7 : ∀ b, b < n → aI X f1 b = c b) (h8 : ∀ b, b < n' → aI X f2 b = c' b) :
    ∃ X' u' v', fX0_longestCommon fu X de (some f1) (some f2) = some (nI (lcR c c' n n'), X') ∧ DFr de d1 d2 X X' ∧ ((u' = d1 ∧ v' = d2) ∨ (u' = d2 ∧ v' = d1)) ∧ mR X' 0 de = some u' ∧ mR X' 1 de = some v' := by
  have ku : mK X u = some (20, 31) := by rcases huv with ⟨rfl, -⟩ | ⟨rfl, -⟩ <;> assumption
  have kv : mK X v = some (20, 31) := by rcases huv with ⟨-, rfl⟩ | ⟨-, rfl⟩ <;> assumption
  unfold fX0_longestCommon fJ9_min_7cf53
  rw [bi_some, alen_of k4 (by decide), bi_some, if_pos h1, h2, bi_some, alen_of ku (by decide), bi_some, h3, bi_some, alen_of kv (by decide), bi_some, if_neg (show ¬ nI 31 < nI 31 by decide), bi_some, show nI 31 - 1 = nI 30 from nI_pred 30, if_neg (fun q => by have := (nI_ltI (by omega) (by omega)).mp q; omega), bi_some]
  have k := e_long24 (fu := fu) (de := de) (c := c) (c' := c') (by omega) hn hn' h12 a1 a2 a3 a4 huv 31 0 (fu - 32) X rfl h1 h2 h3 k1 k2 k3 k4 h7 h8 (fun b hb => absurd hb (Nat.not_lt_zero b))
  rw [show fu - 32 + 31 + 1 = fu by omega] at k
  exact k
