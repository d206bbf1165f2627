/-! THE CLASS's RUN: what lies where, what a run leaves -/
theorem alen_of {X : Mem} {a c n : Nat} (h : mK X a = some (c, n)) (h1 : 20 ≤ c ∧ c < 27) : alen X a = some n := by
  unfold alen
  rw [h]
  exact if_pos h1
theorem inb_of {X : Mem} {t a n j : Nat} (h : mK X a = some (20 + t, n)) (hj : j < n) (hn : n < 2 ^ 31) : inb X t a (nI j) = true := by
  unfold inb
  rw [h]
  simp [nI_clamp (show j < 2 ^ 31 by omega), nI_pos (show j < 2 ^ 31 by omega), hj]
def RGk (g : Nat → Nat) (n : Nat) (X : Mem) : Prop := mK X (g 0) = some (7, 0) ∧ mK X (g 1) = some (8, 0) ∧ mK X (g 2) = some (20, 4) ∧ mK X (g 3) = some (20, 270) ∧ mK X (g 4) = some (20, 8) ∧ mK X (g 5) = some (2, 0) ∧ mK X (g 6) = some (20, 16) ∧ mK X (g 7) = some (20, 16) ∧ mK X (g 8) = some (5, 0) ∧ mK X (g 9) = some (23, n) ∧ mK X (g 10) = some (20, n) ∧ mK X (g 11) = some (20, 4)
def RGr (g : Nat → Nat) (X : Mem) : Prop := mR X 700 (g 0) = some (g 1) ∧ mR X 701 (g 0) = some (g 2) ∧ mR X 702 (g 0) = some (g 3) ∧ mR X 703 (g 0) = some (g 4) ∧ mR X 704 (g 0) = some (g 5) ∧ mR X 200 (g 5) = some (g 6) ∧ mR X 201 (g 5) = some (g 7) ∧ mR X 501 (g 8) = some (g 9) ∧ mR X 502 (g 8) = some (g 10) ∧ mR X 503 (g 8) = some (g 11)
def RGo (g : Nat → Nat) (K T V N : Nat → Int32) (n : Nat) (X : Mem) : Prop := ∀ i, i < n → aR X (g 9) i = some (g (20 + i)) ∧ mK X (g (20 + i)) = some (4, 0) ∧ mI X 400 (g (20 + i)) = K i ∧ mI X 401 (g (20 + i)) = T i ∧ mI X 402 (g (20 + i)) = V i ∧ mI X 403 (g (20 + i)) = N i
def RGp (g : Nat → Nat) (K : Nat → Int32) (n : Nat) (cl : Nat → Nat) (ws : Int32 → Option Nat) (X : Mem) : Prop := (∀ o, o < n → (K o = 5 ∨ K o = 6) → aI X (g 10) o = nI (cl o) ∧ aI X (g 10) (cl o) = nI o) ∧ ∀ t, t < 4 → aI X (g 11) t = oW (ws (nI t))
def RGd (g : Nat → Nat) : Prop := ∀ i ∈ [2, 3, 4, 6, 7, 10, 11], ∀ j ∈ [2, 3, 4, 6, 7, 10, 11], g i = g j → i = j
def RG (g : Nat → Nat) (K T V N : Nat → Int32) (n : Nat) (cl : Nat → Nat) (ws : Int32 → Option Nat) (X : Mem) : Prop := RGk g n X ∧ RGr g X ∧ RGo g K T V N n X ∧ RGp g K n cl ws X ∧ RGd g
section RGS
variable {g : Nat → Nat} {K T V N : Nat → Int32} {n : Nat} {cl : Nat → Nat} {ws : Int32 → Option Nat} {X X1 X2 : Mem}
theorem RG.k0 (h : RG g K T V N n cl ws X) : mK X (g 0) = some (7, 0) := h.1.1
theorem RG.k1 (h : RG g K T V N n cl ws X) : mK X (g 1) = some (8, 0) := h.1.2.1
theorem RG.k2 (h : RG g K T V N n cl ws X) : mK X (g 2) = some (20, 4) := h.1.2.2.1
theorem RG.k3 (h : RG g K T V N n cl ws X) : mK X (g 3) = some (20, 270) := h.1.2.2.2.1
theorem RG.k4 (h : RG g K T V N n cl ws X) : mK X (g 4) = some (20, 8) := h.1.2.2.2.2.1
theorem RG.k5 (h : RG g K T V N n cl ws X) : mK X (g 5) = some (2, 0) := h.1.2.2.2.2.2.1
theorem RG.k6 (h : RG g K T V N n cl ws X) : mK X (g 6) = some (20, 16) := h.1.2.2.2.2.2.2.1
theorem RG.k7 (h : RG g K T V N n cl ws X) : mK X (g 7) = some (20, 16) := h.1.2.2.2.2.2.2.2.1
theorem RG.k8 (h : RG g K T V N n cl ws X) : mK X (g 8) = some (5, 0) := h.1.2.2.2.2.2.2.2.2.1
theorem RG.k9 (h : RG g K T V N n cl ws X) : mK X (g 9) = some (23, n) := h.1.2.2.2.2.2.2.2.2.2.1
theorem RG.k10 (h : RG g K T V N n cl ws X) : mK X (g 10) = some (20, n) := h.1.2.2.2.2.2.2.2.2.2.2.1
theorem RG.k11 (h : RG g K T V N n cl ws X) : mK X (g 11) = some (20, 4) := h.1.2.2.2.2.2.2.2.2.2.2.2
theorem RG.r700 (h : RG g K T V N n cl ws X) : mR X 700 (g 0) = some (g 1) := h.2.1.1
theorem RG.r701 (h : RG g K T V N n cl ws X) : mR X 701 (g 0) = some (g 2) := h.2.1.2.1
theorem RG.r702 (h : RG g K T V N n cl ws X) : mR X 702 (g 0) = some (g 3) := h.2.1.2.2.1
theorem RG.r703 (h : RG g K T V N n cl ws X) : mR X 703 (g 0) = some (g 4) := h.2.1.2.2.2.1
theorem RG.r704 (h : RG g K T V N n cl ws X) : mR X 704 (g 0) = some (g 5) := h.2.1.2.2.2.2.1
theorem RG.r200 (h : RG g K T V N n cl ws X) : mR X 200 (g 5) = some (g 6) := h.2.1.2.2.2.2.2.1
theorem RG.r201 (h : RG g K T V N n cl ws X) : mR X 201 (g 5) = some (g 7) := h.2.1.2.2.2.2.2.2.1
theorem RG.r501 (h : RG g K T V N n cl ws X) : mR X 501 (g 8) = some (g 9) := h.2.1.2.2.2.2.2.2.2.1
theorem RG.r502 (h : RG g K T V N n cl ws X) : mR X 502 (g 8) = some (g 10) := h.2.1.2.2.2.2.2.2.2.2.1
theorem RG.r503 (h : RG g K T V N n cl ws X) : mR X 503 (g 8) = some (g 11) := h.2.1.2.2.2.2.2.2.2.2.2
theorem RG.o (h : RG g K T V N n cl ws X) : RGo g K T V N n X := h.2.2.1
theorem RG.p (h : RG g K T V N n cl ws X) : RGp g K n cl ws X := h.2.2.2.1
theorem RG.ne (h : RG g K T V N n cl ws X) (i j : Nat) (hi : i ∈ [2, 3, 4, 6, 7, 10, 11]) (hj : j ∈ [2, 3, 4, 6, 7, 10, 11]) (hij : i ≠ j) : g i ≠ g j := fun q => hij (h.2.2.2.2 i hi j hj q)
/-- what a run leaves -/
def FR (g : Nat → Nat) (X X1 : Mem) : Prop := mK X1 = mK X ∧ mR X1 = mR X ∧ aR X1 = aR X ∧ aJ X1 = aJ X ∧ mZ X1 = mZ X ∧ (∀ k a, (k < 202 ∨ 206 < k) → (k < 705 ∨ 708 < k) → (k < 800 ∨ 803 < k) → mI X1 k a = mI X k a) ∧ (∀ k a, a ≠ g 5 → k ≤ 206 → mI X1 k a = mI X k a) ∧ ∀ a, a ≠ g 2 → a ≠ g 3 → a ≠ g 4 → a ≠ g 6 → a ≠ g 7 → aI X1 a = aI X a
theorem FR.rfl9 : FR g X X := ⟨rfl, rfl, rfl, rfl, rfl, fun _ _ _ _ _ => rfl, fun _ _ _ _ => rfl, fun _ _ _ _ _ _ => rfl⟩
theorem FR.trans (h : FR g X X1) (k : FR g X1 X2) : FR g X X2 := ⟨k.1.trans h.1, k.2.1.trans h.2.1, k.2.2.1.trans h.2.2.1, k.2.2.2.1.trans h.2.2.2.1, k.2.2.2.2.1.trans h.2.2.2.2.1, fun i a p q r => (k.2.2.2.2.2.1 i a p q r).trans (h.2.2.2.2.2.1 i a p q r), fun i a p q => (k.2.2.2.2.2.2.1 i a p q).trans (h.2.2.2.2.2.2.1 i a p q), fun a p q r s t => (k.2.2.2.2.2.2.2 a p q r s t).trans (h.2.2.2.2.2.2.2 a p q r s t)⟩
theorem FR.wI {k a : Nat} {v : Int32} (h : (202 ≤ k ∧ k ≤ 206 ∧ a = g 5) ∨ (705 ≤ k ∧ k ≤ 708) ∨ (800 ≤ k ∧ k ≤ 803)) : FR g X (wI X k a v) := ⟨rfl, rfl, rfl, rfl, rfl, fun i b p q r => if_neg (fun z => by omega), fun i b p q => if_neg (fun z => by omega), fun _ _ _ _ _ _ => rfl⟩
theorem FR.sI {i a : Nat} {v : Int32} (h : a = g 2 ∨ a = g 3 ∨ a = g 4 ∨ a = g 6 ∨ a = g 7) : FR g X (sI X a i v) := ⟨rfl, rfl, rfl, rfl, rfl, fun _ _ _ _ _ => rfl, fun _ _ _ _ => rfl, fun b p q r s t => funext fun j => if_neg (fun z => by rcases h with h | h | h | h | h <;> exact absurd (z.1.trans h) (by assumption))⟩
theorem RG.fr (h : RG g K T V N n cl ws X) (k : FR g X X1) : RG g K T V N n cl ws X1 := by
  obtain ⟨f1, f2, f3, f4, f5, f6, f7, f8⟩ := k
  have n10 : aI X1 (g 10) = aI X (g 10) := f8 _ (h.ne 10 2 (by decide) (by decide) (by decide)) (h.ne 10 3 (by decide) (by decide) (by decide)) (h.ne 10 4 (by decide) (by decide) (by decide)) (h.ne 10 6 (by decide) (by decide) (by decide)) (h.ne 10 7 (by decide) (by decide) (by decide))
  have n11 : aI X1 (g 11) = aI X (g 11) := f8 _ (h.ne 11 2 (by decide) (by decide) (by decide)) (h.ne 11 3 (by decide) (by decide) (by decide)) (h.ne 11 4 (by decide) (by decide) (by decide)) (h.ne 11 6 (by decide) (by decide) (by decide)) (h.ne 11 7 (by decide) (by decide) (by decide))
  obtain ⟨h1, h2, h3, h4, h5⟩ := h
  refine ⟨by unfold RGk; rw [f1]; exact h1, by unfold RGr; rw [f2]; exact h2, fun i hi => ?_, ⟨fun o ho hk => ?_, fun t ht => ?_⟩, h5⟩
  · rw [f3, f1, f6 400 _ (by omega) (by omega) (by omega), f6 401 _ (by omega) (by omega) (by omega), f6 402 _ (by omega) (by omega) (by omega), f6 403 _ (by omega) (by omega) (by omega)]
    exact h3 i hi
  · rw [n10]
    exact h4.1 o ho hk
  · rw [n11]
    exact h4.2 t ht
theorem mI_wI {k a j b : Nat} {v : Int32} : mI (wI X k a v) j b = if j = k ∧ b = a then v else mI X j b := (Eq.refl _).trans (Eq.refl _)
theorem mI_sI {i a j b : Nat} {v : Int32} : mI (sI X a i v) j b = mI X j b := (Eq.refl _).trans (Eq.refl _)
theorem aI_wI {k a b i : Nat} {v : Int32} : aI (wI X k a v) b i = aI X b i := (Eq.refl _).trans (Eq.refl _)
theorem aI_sI {i a j b : Nat} {v : Int32} : aI (sI X a i v) b j = if b = a ∧ j = i then v else aI X b j := (Eq.refl _).trans (Eq.refl _)
theorem mK_wI {k a : Nat} {v : Int32} : mK (wI X k a v) = mK X := (Eq.refl _).trans (Eq.refl _)
theorem mK_sI {i a : Nat} {v : Int32} : mK (sI X a i v) = mK X := (Eq.refl _).trans (Eq.refl _)
theorem mR_wI {k a : Nat} {v : Int32} : mR (wI X k a v) = mR X := (Eq.refl _).trans (Eq.refl _)
theorem mR_sI {i a : Nat} {v : Int32} : mR (sI X a i v) = mR X := (Eq.refl _).trans (Eq.refl _)
theorem aR_wI {k a : Nat} {v : Int32} : aR (wI X k a v) = aR X := (Eq.refl _).trans (Eq.refl _)
theorem aR_sI {i a : Nat} {v : Int32} : aR (sI X a i v) = aR X := (Eq.refl _).trans (Eq.refl _)
/-- the orders, partners and words of the program -/
theorem c_orderAt {j : Nat} (h : RG g K T V N n cl ws X) (hn : n ≤ 30) (hj : j < n) : fX5_orderAt X (g 8) (nI j) = some (some (g (20 + j))) := by
  unfold fX5_orderAt
  rw [if_neg (nI_pos (by omega)), if_pos h.k8, h.r501, bi_some, alen_of h.k9 (by decide), bi_some, if_neg (fun q => by have := (nI_leI (by omega) (by omega)).mp q; omega), bi_some, if_pos (inb_of (t := 3) h.k9 hj (by omega)), nI_clamp (by omega), (h.o j hj).1]
theorem c_partner {j : Nat} (h : RG g K T V N n cl ws X) (hn : n ≤ 30) (hj : j < n) : fX5_partnerOf X (g 8) (nI j) = some (aI X (g 10) j) := by
  unfold fX5_partnerOf
  rw [if_neg (nI_pos (by omega)), if_pos h.k8, h.r502, bi_some, alen_of h.k10 (by decide), bi_some, if_neg (fun q => by have := (nI_leI (by omega) (by omega)).mp q; omega), bi_some, if_pos (inb_of (t := 0) h.k10 hj (by omega)), nI_clamp (by omega)]
theorem c_start {j : Nat} (h : RG g K T V N n cl ws X) (hj : j < 4) : fX5_startOf X (g 8) (nI j) = some (oW (ws (nI j))) := by
  unfold fX5_startOf
  rw [if_neg (nI_pos (by omega)), if_pos h.k8, h.r503, bi_some, alen_of h.k11 (by decide), bi_some, if_neg (fun q => by have := (nI_leI (by omega) (by omega)).mp q; omega), bi_some, if_pos (inb_of (t := 0) h.k11 hj (by omega)), nI_clamp (by omega), h.p.2 j hj]
theorem c_length (h : RG g K T V N n cl ws X) : fX5_length X (g 8) = some (nI n) := by
  unfold fX5_length
  rw [if_pos h.k8, h.r501, bi_some, alen_of h.k9 (by decide), bi_some]
theorem c_nameAt {j : Nat} (h : RG g K T V N n cl ws X) (hj : j < 4) : fX7_nameAt X (g 0) (nI j) = some (aI X (g 2) j) := by
  unfold fX7_nameAt
  rw [if_neg (nI_pos (by omega)), if_pos h.k0, h.r701, bi_some, alen_of h.k2 (by decide), bi_some, if_neg (fun q => by have := (nI_leI (by omega) (by omega)).mp q; omega), bi_some, if_pos (inb_of (t := 0) h.k2 hj (by omega)), nI_clamp (by omega)]
end RGS
