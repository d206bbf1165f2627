/-! THE CLASS's MEMORY: what may change; forms are built -/
def Fm (P : Nat → Prop) (X X1 : Mem) : Prop := mZ X ≤ mZ X1 ∧ (∀ a, a < mZ X → mK X1 a = mK X a) ∧ ∀ a, a < mZ X → ¬ P a → (∀ k, (k < 700 ∨ 900 ≤ k) → mI X1 k a = mI X k a) ∧ (∀ k, mR X1 k a = mR X k a) ∧ aI X1 a = aI X a ∧ aR X1 a = aR X a ∧ aJ X1 a = aJ X a
theorem Fm.rfl9 {P : Nat → Prop} {X : Mem} : Fm P X X := ⟨Nat.le_refl _, fun _ _ => rfl, fun _ _ _ => ⟨fun _ _ => rfl, fun _ => rfl, rfl, rfl, rfl⟩⟩
theorem Fm.trans {P : Nat → Prop} {X X1 X2 : Mem} (h : Fm P X X1) (k : Fm P X1 X2) : Fm P X X2 := ⟨Nat.le_trans h.1 k.1, fun a ha => (k.2.1 a (Nat.lt_of_lt_of_le ha h.1)).trans (h.2.1 a ha), fun a ha hp => by
  obtain ⟨a1, a2, a3, a4, a5⟩ := h.2.2 a ha hp
  obtain ⟨b1, b2, b3, b4, b5⟩ := k.2.2 a (Nat.lt_of_lt_of_le ha h.1) hp
  exact ⟨fun i hi => (b1 i hi).trans (a1 i hi), fun i => (b2 i).trans (a2 i), b3.trans a3, b4.trans a4, b5.trans a5⟩⟩
theorem Fm.mono {P Q : Nat → Prop} {X X1 : Mem} (h : Fm P X X1) (hpq : ∀ a, a < mZ X → P a → Q a) : Fm Q X X1 := ⟨h.1, h.2.1, fun a ha hq => h.2.2 a ha (fun p => hq (hpq a ha p))⟩
theorem Fm.wI {P : Nat → Prop} {X : Mem} {k a : Nat} {v : Int32} (h : P a ∨ (700 ≤ k ∧ k < 900)) : Fm P X (wI X k a v) := ⟨Nat.le_refl _, fun _ _ => rfl, fun b hb hp => ⟨fun i hi => if_neg (fun q => h.elim (fun z => hp (by rw [q.2]; exact z)) (fun z => by omega)), fun _ => rfl, rfl, rfl, rfl⟩⟩
theorem Fm.wR {P : Nat → Prop} {X : Mem} {k a : Nat} {v : Option Nat} (h : P a) : Fm P X (wR X k a v) := ⟨Nat.le_refl _, fun _ _ => rfl, fun b hb hp => ⟨fun _ _ => rfl, fun i => if_neg (fun q => hp (by rw [q.2]; exact h)), rfl, rfl, rfl⟩⟩
theorem Fm.sI {P : Nat → Prop} {X : Mem} {i a : Nat} {v : Int32} (h : P a) : Fm P X (sI X a i v) := ⟨Nat.le_refl _, fun _ _ => rfl, fun b hb hp => ⟨fun _ _ => rfl, fun _ => rfl, funext fun j => if_neg (fun q => hp (by rw [q.1]; exact h)), rfl, rfl⟩⟩
theorem Fm.sJ {P : Nat → Prop} {X : Mem} {i a : Nat} {v : Int64} (h : P a) : Fm P X (sJ X a i v) := ⟨Nat.le_refl _, fun _ _ => rfl, fun b hb hp => ⟨fun _ _ => rfl, fun _ => rfl, rfl, rfl, funext fun j => if_neg (fun q => hp (by rw [q.1]; exact h))⟩⟩
theorem Fm.sR {P : Nat → Prop} {X : Mem} {i a : Nat} {v : Option Nat} (h : P a) : Fm P X (sR X a i v) := ⟨Nat.le_refl _, fun _ _ => rfl, fun b hb hp => ⟨fun _ _ => rfl, fun _ => rfl, rfl, funext fun j => if_neg (fun q => hp (by rw [q.1]; exact h)), rfl⟩⟩
theorem Fm.nO {P : Nat → Prop} {X : Mem} {c : Nat} : Fm P X (nO X c) := ⟨Nat.le_succ _, fun a ha => if_neg (Nat.ne_of_lt ha), fun b hb hp => ⟨fun i hi => if_neg (Nat.ne_of_lt hb), fun _ => if_neg (Nat.ne_of_lt hb), rfl, rfl, rfl⟩⟩
theorem Fm.nA {P : Nat → Prop} {X : Mem} {t n : Nat} : Fm P X (nA X t n) := ⟨Nat.le_succ _, fun a ha => if_neg (Nat.ne_of_lt ha), fun b hb hp => ⟨fun i hi => rfl, fun _ => rfl, funext fun _ => if_neg (Nat.ne_of_lt hb), funext fun _ => if_neg (Nat.ne_of_lt hb), funext fun _ => if_neg (Nat.ne_of_lt hb)⟩⟩
/-- nothing is made -/
def NFr (P : Nat → Prop) (X X1 : Mem) : Prop := mK X1 = mK X ∧ mR X1 = mR X ∧ aR X1 = aR X ∧ aJ X1 = aJ X ∧ mZ X1 = mZ X ∧ ∀ b, ¬ P b → (∀ k, mI X1 k b = mI X k b) ∧ aI X1 b = aI X b
theorem NFr.rfl9 {P : Nat → Prop} {X : Mem} : NFr P X X := ⟨rfl, rfl, rfl, rfl, rfl, fun _ _ => ⟨fun _ => rfl, rfl⟩⟩
theorem NFr.trans {P : Nat → Prop} {X X1 X2 : Mem} (h : NFr P X X1) (k : NFr P X1 X2) : NFr P X X2 := ⟨k.1.trans h.1, k.2.1.trans h.2.1, k.2.2.1.trans h.2.2.1, k.2.2.2.1.trans h.2.2.2.1, k.2.2.2.2.1.trans h.2.2.2.2.1, fun b hb => ⟨fun i => ((k.2.2.2.2.2 b hb).1 i).trans ((h.2.2.2.2.2 b hb).1 i), (k.2.2.2.2.2 b hb).2.trans (h.2.2.2.2.2 b hb).2⟩⟩
theorem NFr.wI {P : Nat → Prop} {X : Mem} {k a : Nat} {v : Int32} (h : P a) : NFr P X (wI X k a v) := ⟨rfl, rfl, rfl, rfl, rfl, fun b hb => ⟨fun i => if_neg (fun q => hb (by rw [q.2]; exact h)), rfl⟩⟩
theorem NFr.sI {P : Nat → Prop} {X : Mem} {i a : Nat} {v : Int32} (h : P a) : NFr P X (sI X a i v) := ⟨rfl, rfl, rfl, rfl, rfl, fun b hb => ⟨fun _ => rfl, funext fun j => if_neg (fun q => hb (by rw [q.1]; exact h))⟩⟩
theorem NFr.mono {P Q : Nat → Prop} {X X1 : Mem} (h : NFr P X X1) (k : ∀ b, P b → Q b) : NFr Q X X1 := ⟨h.1, h.2.1, h.2.2.1, h.2.2.2.1, h.2.2.2.2.1, fun b hb => h.2.2.2.2.2 b (fun p => hb (k b p))⟩
theorem NFr.fm {P : Nat → Prop} {X X1 : Mem} (h : NFr P X X1) : Fm P X X1 := ⟨by rw [h.2.2.2.2.1]; exact Nat.le_refl _, fun a _ => by rw [h.1], fun a _ hp => ⟨fun k _ => (h.2.2.2.2.2 a hp).1 k, fun k => by rw [h.2.1], (h.2.2.2.2.2 a hp).2, by rw [h.2.2.1], by rw [h.2.2.2.1]⟩⟩
theorem AFr.nfr {pa : Nat} {X X1 : Mem} (h : AFr pa X X1) : NFr (fun b => b = pa) X X1 := ⟨h.1, h.2.2.1, h.2.2.2.1, h.2.2.2.2.1, h.2.2.2.2.2.1, fun b hb => ⟨fun k => by rw [h.2.1], h.2.2.2.2.2.2 b hb⟩⟩
theorem FreshM.cg {X X1 : Mem} (h : FreshM X) (h1 : mK X1 = mK X) (h2 : mZ X1 = mZ X) : FreshM X1 := fun a ha => by rw [h2]; exact h a (by rw [← h1]; exact ha)
theorem FreshM.nO {X : Mem} {c : Nat} (h : FreshM X) : FreshM (nO X c) := fun a ha => by
  show a < mZ X + 1
  have ha : (if a = mZ X then some (c, 0) else mK X a) ≠ none := ha
  by_cases e : a = mZ X
  · omega
  · rw [if_neg e] at ha
    have := h a ha
    omega
theorem FreshM.nA {X : Mem} {t n : Nat} (h : FreshM X) : FreshM (nA X t n) := fun a ha => by
  show a < mZ X + 1
  have ha : (if a = mZ X then some (20 + t, n) else mK X a) ≠ none := ha
  by_cases e : a = mZ X
  · omega
  · rw [if_neg e] at ha
    have := h a ha
    omega
/-- a numbering of the class -/
def RN (X : Mem) (ra fa : Nat) (f : Nat → Int32) : Prop := mK X ra = some (6, 0) ∧ mR X 600 ra = some fa ∧ mK X fa = some (20, 4) ∧ mI X 601 ra = nI (cnN f) ∧ ∀ j, j < 4 → aI X fa j = f j
theorem RN.nfr {P : Nat → Prop} {X X1 : Mem} {ra fa : Nat} {f : Nat → Int32} (h : RN X ra fa f) (k : NFr P X X1) (h1 : ¬ P ra) (h2 : ¬ P fa) : RN X1 ra fa f := by
  obtain ⟨a1, a2, a3, a4, a5⟩ := h
  exact ⟨by rw [k.1]; exact a1, by rw [k.2.1]; exact a2, by rw [k.1]; exact a3, by rw [(k.2.2.2.2.2 ra h1).1]; exact a4, fun j hj => by rw [(k.2.2.2.2.2 fa h2).2]; exact a5 j hj⟩
theorem cnN_le (f : Nat → Int32) : cnN f ≤ 4 := by
  unfold cnN
  repeat' split
  all_goals omega
theorem cnN_up {f : Nat → Int32} {t : Nat} {v : Int32} (ht : t < 4) (h : f t = -1) (hv : v ≠ -1) : cnN (up1 f t v) = cnN f + 1 := by
  unfold cnN up1
  rcases (show t = 0 ∨ t = 1 ∨ t = 2 ∨ t = 3 by omega) with e | e | e | e <;> subst e <;> rw [if_pos h] <;> simp [hv] <;> omega
theorem d_ren13 {fu a fa : Nat} : ∀ (t i m : Nat) (X : Mem), i + t = 4 → mK X a = some (6, 0) → mR X 600 a = some fa → mK X fa = some (20, 4) → (∀ j, j < i → aI X fa j = -1) → ∃ X', fX6_init_L13 fu (m + t + 1) X a (nI i) = some X' ∧ AFr fa X X' ∧ ∀ j, j < 4 → aI X' fa j = -1 := by
  intro t
  induction t with
  | zero =>
    intro i m X hi h1 h2 h3 h4
    have hi : i = 4 := hi
    subst hi
    refine ⟨X, ?_, AFr.rfl9, h4⟩
    show fX6_init_L13b fu (fX6_init_L13 fu m) X a (nI 4) = _
    unfold fX6_init_L13b
    rw [if_pos h1, h2, bi_some, alen_of h3 (by decide), bi_some, if_pos (Int32.le_refl _)]
  | succ t ih =>
    intro i m X hi h1 h2 h3 h4
    show ∃ X', fX6_init_L13b fu (fX6_init_L13 fu (m + t + 1)) X a (nI i) = some X' ∧ _
    unfold fX6_init_L13b
    rw [if_pos h1, h2, bi_some, alen_of h3 (by decide), bi_some, if_neg (fun q => by have := (nI_leI (by omega) (by omega)).mp q; omega), bi_some, if_pos (inb_of (t := 0) h3 (by omega : i < 4) (by omega)), nI_clamp (by omega), nI_1]
    obtain ⟨X', z1, z2, z3⟩ := ih (i + 1) m (sI X fa i (-1)) (by omega) h1 h2 h3 (fun j hj => by
      rw [aI_sI]
      by_cases e : j = i
      · rw [if_pos ⟨rfl, e⟩]
      · rw [if_neg (fun q => e q.2)]
        exact h4 j (by omega))
    exact ⟨X', z1, AFr.sI.trans z2, z3⟩
theorem d_ren {fu a : Nat} {X : Mem} (hfu : 10 ≤ fu) (hf : FreshM X) (h1 : mK X a = some (6, 0)) (h2 : mI X 601 a = 0) : ∃ X', fX6_init fu X a = some X' ∧ RN X' a (mZ X) (fun _ => -1) ∧ Fm (fun b => b = a) X X' ∧ mZ X' = mZ X + 1 ∧ FreshM X' := by
  have ha : a < mZ X := hf a (by rw [h1]; exact fun z => nomatch z)
  have k1 : mK (nA X 0 4) a = some (6, 0) := (if_neg (Nat.ne_of_lt ha)).trans h1
  unfold fX6_init
  rw [bi_some, bi_some, if_pos k1]
  have k2 : mK (wR (nA X 0 4) 600 a (some (mZ X))) a = some (6, 0) := k1
  have k3 : mR (wR (nA X 0 4) 600 a (some (mZ X))) 600 a = some (mZ X) := if_pos ⟨rfl, rfl⟩
  have k4 : mK (wR (nA X 0 4) 600 a (some (mZ X))) (mZ X) = some (20, 4) := if_pos rfl
  have k5 : mI (wR (nA X 0 4) 600 a (some (mZ X))) 601 a = 0 := h2
  have k6 : FreshM (wR (nA X 0 4) 600 a (some (mZ X))) := (hf.nA (t := 0) (n := 4)).cg rfl rfl
  have k7 : Fm (fun b => b = a ∨ b = mZ X) X (wR (nA X 0 4) 600 a (some (mZ X))) := Fm.nA.trans (Fm.wR (Or.inl rfl))
  have k8 : mZ (wR (nA X 0 4) 600 a (some (mZ X))) = mZ X + 1 := rfl
  generalize wR (nA X 0 4) 600 a (some (mZ X)) = X1 at k2 k3 k4 k5 k6 k7 k8 ⊢
  obtain ⟨X', z1, z2, z3⟩ := d_ren13 (fu := fu) (a := a) (fa := mZ X) 4 0 (fu - 5) X1 rfl k2 k3 k4 (fun j hj => absurd hj (Nat.not_lt_zero j))
  rw [show fu - 5 + 4 + 1 = fu by omega] at z1
  refine ⟨X', z1, ⟨by rw [z2.1]; exact k2, by rw [z2.2.2.1]; exact k3, by rw [z2.1]; exact k4, by rw [z2.2.1, k5]; rfl, z3⟩, ?_, by rw [z2.2.2.2.2.2.1]; exact k8, k6.cg z2.1 z2.2.2.2.2.2.1⟩
  refine (k7.trans ((z2.nfr.mono (fun b hb => Or.inr hb)).fm)).mono (fun b hb hq => hq.elim id (fun q => by omega))
theorem d_numOf {X : Mem} {ra fa t : Nat} {f : Nat → Int32} (h : RN X ra fa f) (ht : t < 4) : ∃ X', fX6_numberOf X ra (nI t) = some ((anw f t).1, X') ∧ RN X' ra fa (anw f t).2 ∧ NFr (fun b => b = ra ∨ b = fa) X X' := by
  obtain ⟨a1, a2, a3, a4, a5⟩ := id h
  have hin : inb X 0 fa (nI t) = true := inb_of (t := 0) a3 ht (by omega)
  unfold fX6_numberOf anw
  rw [if_neg (nI_pos (by omega)), if_pos a1, a2, bi_some, alen_of a3 (by decide), bi_some, if_pos ((nI_ltI (by omega) (by omega)).mpr ht), bi_some, if_pos hin, nI_clamp (by omega), a5 t ht]
  by_cases e : f t = -1
  · rw [if_pos e, if_pos e, bi_some, if_pos hin]
    have hc := cnN_lt ht e
    have r2 : mR (wI (sI X fa t (mI X 601 ra)) 601 ra ((mI (sI X fa t (mI X 601 ra)) 601 ra) + (1 : Int32))) 600 ra = some fa := a2
    have r3 : inb (wI (sI X fa t (mI X 601 ra)) 601 ra ((mI (sI X fa t (mI X 601 ra)) 601 ra) + (1 : Int32))) 0 fa (nI t) = true := hin
    rw [r2, bi_some, if_pos r3, aI_wI, aI_sI, if_pos ⟨rfl, rfl⟩, a4]
    refine ⟨_, rfl, ⟨a1, a2, a3, ?_, fun j hj => ?_⟩, (NFr.sI (Or.inr rfl)).trans (NFr.wI (Or.inl rfl))⟩
    · rw [mI_wI, if_pos ⟨rfl, rfl⟩, mI_sI, a4, nI_1, cnN_up ht e (nI_nm1 (by omega))]
    · rw [aI_wI, aI_sI]
      show _ = (if j = t then nI (cnN f) else f j)
      by_cases e2 : j = t
      · rw [if_pos ⟨rfl, e2⟩, if_pos e2]
      · rw [if_neg (fun q => e2 q.2), if_neg e2]
        exact a5 j hj
  · rw [if_neg e, if_neg e, bi_some, if_pos hin, a5 t ht]
    exact ⟨X, rfl, h, NFr.rfl9⟩
