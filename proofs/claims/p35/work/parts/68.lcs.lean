/-! the longest common part, row by row; the reference's table
-/
def rowF (c c' : Nat → Int32) (i : Nat) (prev : Nat → Nat) : Nat → Nat
  | 0 => 0
  | j + 1 => if c i = c' j then prev j + 1 else max (prev (j + 1)) (rowF c c' i prev j)
def lcR (c c' : Nat → Int32) : Nat → Nat → Nat
  | 0 => fun _ => 0
  | i + 1 => rowF c c' i (lcR c c' i)
theorem lcR_0 {c c' : Nat → Int32} : ∀ i, lcR c c' i 0 = 0
  | 0 => rfl
  | _ + 1 => rfl
theorem lcR_s {c c' : Nat → Int32} {i j : Nat} : lcR c c' (i + 1) (j + 1) = if c i = c' j then lcR c c' i j + 1 else max (lcR c c' i (j + 1)) (lcR c c' (i + 1) j) := rfl
theorem lcR_le {c c' : Nat → Int32} : ∀ i j, lcR c c' i j ≤ i ∧ lcR c c' i j ≤ j := by
  intro i
  induction i with
  | zero => intro j; exact ⟨Nat.zero_le _, Nat.zero_le _⟩
  | succ i ih =>
    intro j
    induction j with
    | zero => rw [lcR_0]; exact ⟨Nat.zero_le _, Nat.le_refl _⟩
    | succ j ihj =>
      rw [lcR_s]
      have a := ih j
      have b := ih (j + 1)
      split
      · omega
      · have := Nat.max_le (a := lcR c c' i (j + 1)) (b := lcR c c' (i + 1) j) (c := i + 1)
        have := Nat.max_le (a := lcR c c' i (j + 1)) (b := lcR c c' (i + 1) j) (c := j + 1)
        omega
theorem lcR_cg {c c' d d' : Nat → Int32} {n n' : Nat} (h : ∀ i j, i < n → j < n' → (c i = c' j ↔ d i = d' j)) : ∀ i j, i ≤ n → j ≤ n' → lcR c c' i j = lcR d d' i j := by
  intro i
  induction i with
  | zero => intro j _ _; rfl
  | succ i ih =>
    intro j hi
    induction j with
    | zero => intro _; rw [lcR_0, lcR_0]
    | succ j ihj =>
      intro hj
      rw [lcR_s, lcR_s, ih j (by omega) (by omega), ih (j + 1) (by omega) hj, ihj (by omega)]
      by_cases e : c i = c' j
      · rw [if_pos e, if_pos ((h i j (by omega) (by omega)).mp e)]
      · rw [if_neg e, if_neg (fun q => e ((h i j (by omega) (by omega)).mpr q))]
/-- the table is right as far as (i, j) -/
def TI (n' : Nat) (c c' : Nat → Int32) (i j : Nat) (S : SM) : Prop := (∀ a, a ≤ 30 → ar S 22 (31 * a) = 0) ∧ (∀ a b, a ≤ i → b ≤ n' → ar S 22 (31 * a + b) = nI (lcR c c' a b)) ∧ ∀ b, b ≤ j → ar S 22 (31 * (i + 1) + b) = nI (lcR c c' (i + 1) b)
/-- what it leaves -/
def LG (S S' : SM) : Prop := sc S' = sc S ∧ (∀ r, r ≠ 19 → r ≠ 20 → r ≠ 21 → r ≠ 22 → ar S' r = ar S r) ∧ al S' = al S
theorem LG.rfl9 {S : SM} : LG S S := ⟨rfl, fun _ _ _ _ _ => rfl, rfl⟩
theorem LG.trans {a b c : SM} (h : LG a b) (k : LG b c) : LG a c := ⟨k.1.trans h.1, fun r a1 a2 a3 a4 => (k.2.1 r a1 a2 a3 a4).trans (h.2.1 r a1 a2 a3 a4), k.2.2.trans h.2.2⟩
theorem LF.lg {S S' : SM} (h : LF S S') : LG S S' := ⟨h.1, fun r a b c _ => h.2.1 r a b c, h.2.2⟩
theorem i31 {i j : Nat} : (31 : Int32) * nI i + nI j = nI (31 * i + j) := by
  rw [show (31 : Int32) = nI 31 from rfl, pk_mul, nI_add]
theorem q_cell {n' fu i j : Nat} {c c' : Nat → Int32} {S : SM} {x1 x2 : Int32} (hi : i < 30) (hj : j < n') (hn : n' ≤ 30) (hc : ∀ k, k < 30 → ar S 19 k = c k) (hc' : ∀ k, k < n' → ar S 19 (30 + k) = c' k) (hT : TI n' c c' i j S) (rec36 : SM → Int32 → Int32 → Int32 → Option (Int32 × SM)) (rec49 : SM → Int32 → Int32 → Int32 → Int32 → Option (Int32 × SM)) (i5 : inS 0 5 x2 = true) (h5 : ar S 5 x2.toNatClampNeg = nI n') :
    fX12_longestRow_L49b fu rec36 rec49 S x1 x2 (nI i) (nI j) = rec49 (ua S 22 (31 * (i + 1) + (j + 1)) (nI (lcR c c' (i + 1) (j + 1)))) x1 x2 (nI i) (nI (j + 1)) := by
  have in22 : ∀ z, z < 961 → inS 0 22 (nI z) = true := fun z hz => inS_ok (by decide) rfl hz (by decide)
  have b1 := (lcR_le (c := c) (c' := c') i (j + 1)).1
  have b2 := (lcR_le (c := c) (c' := c') (i + 1) j).1
  have b3 := (lcR_le (c := c) (c' := c') i j).1
  have t1 : ar S 22 (31 * i + (j + 1)) = nI (lcR c c' i (j + 1)) := hT.2.1 i (j + 1) (Nat.le_refl i) (by omega)
  have t2 : ar S 22 (31 * (i + 1) + j) = nI (lcR c c' (i + 1) j) := hT.2.2 j (Nat.le_refl j)
  have t3 : ar S 22 (31 * i + j) = nI (lcR c c' i j) := hT.2.1 i j (Nat.le_refl i) (by omega)
  have e122 : ∀ z : Int32, (¬ c i = c' j → z = nI (max (lcR c c' i (j + 1)) (lcR c c' (i + 1) j))) → fX12_longestRow_L122 fu rec36 rec49 S x1 x2 (nI i) (nI j) z = rec49 (ua S 22 (31 * (i + 1) + (j + 1)) (nI (lcR c c' (i + 1) (j + 1)))) x1 x2 (nI i) (nI (j + 1)) := by
    intro z hz
    unfold fX12_longestRow_L122 fX12_longestRow_L177
    rw [if_pos (inS_ok (by decide) rfl (by show i < 60; omega) (by decide)), show (30 : Int32) + nI j = nI (30 + j) from nI_add 30 j, if_pos (inS_ok (by decide) rfl (by show 30 + j < 60; omega) (by decide)), nI_clamp (show i < 2 ^ 31 by omega), nI_clamp (show 30 + j < 2 ^ 31 by omega), hc i hi, hc' j hj, nI_1, i31, i31, nI_1, nI_1, nI_clamp (show 31 * i + j < 2 ^ 31 by omega), t3, show 31 * (i + 1) + j + 1 = 31 * (i + 1) + (j + 1) by omega, nI_clamp (show 31 * (i + 1) + (j + 1) < 2 ^ 31 by omega), lcR_s]
    by_cases e : c i = c' j
    · rw [if_pos e, if_pos (in22 _ (by omega)), if_pos (in22 _ (by omega)), if_pos e, nI_1]
    · rw [if_neg e, if_pos (in22 _ (by omega)), if_neg e, hz e]
  unfold fX12_longestRow_L49b
  rw [if_pos i5, h5, if_neg (fun q => by have := (nI_leI (by omega) (by omega)).mp q; omega), i31, nI_1, nI_1, i31, show 31 * i + j + 1 = 31 * i + (j + 1) by omega, if_pos (in22 _ (by omega)), if_pos (in22 _ (by omega)), nI_clamp (show 31 * i + (j + 1) < 2 ^ 31 by omega), nI_clamp (show 31 * (i + 1) + j < 2 ^ 31 by omega), t1, t2]
  by_cases e : lcR c c' i (j + 1) ≤ lcR c c' (i + 1) j
  · rw [if_pos ((nI_leI (by omega) (by omega)).mpr e), if_pos (in22 _ (by omega))]
    exact e122 _ (fun _ => by rw [Nat.max_eq_right e])
  · rw [if_neg (fun q => e ((nI_leI (by omega) (by omega)).mp q)), if_pos (in22 _ (by omega))]
    exact e122 _ (fun _ => by rw [Nat.max_eq_left (by omega)])
