/-! BITS of a row -/
theorem mask31 {x : Nat} (h : x < 32) : (nI x &&& 31) = nI x := by
  rw [pk_andN (by omega) 5 (by decide)]
  congr 1
  omega
theorem smod32 {x : Nat} (h : x < 32) : ((nI x).toBitVec.smod 32).toNat = x := by
  have key : ∀ x, x < 32 → ((nI x).toBitVec.smod 32).toNat = x := by decide +kernel
  exact key x h
theorem and1_if (v : Int32) : v &&& 1 = if v.toBitVec.getLsbD 0 then 1 else 0 := by
  apply Int32.toBitVec_inj.mp
  have e : ((if v.toBitVec.getLsbD 0 then 1 else 0 : Int32)).toBitVec = if v.toBitVec.getLsbD 0 then 1#32 else 0#32 := by
    split <;> rfl
  rw [e, Int32.toBitVec_and]
  apply BitVec.eq_of_getLsbD_eq
  intro i hi
  rw [BitVec.getLsbD_and]
  have e1 : (1 : Int32).toBitVec = 1#32 := rfl
  rw [e1, BitVec.getLsbD_one]
  by_cases h0 : i = 0
  · subst h0
    cases hv : v.toBitVec.getLsbD 0 <;> simp
  · cases hv : v.toBitVec.getLsbD 0 <;> simp [h0, BitVec.getLsbD_one]
theorem bit1_if {w : Int32} {x : Nat} (h : x < 32) : bit1 w (nI x) = if w.toBitVec.getLsbD x then 1 else 0 := by
  unfold bit1
  rw [and1_if, mask31 h, Int32.toBitVec_shiftRight]
  unfold BitVec.sshiftRight'
  rw [smod32 h, BitVec.getLsbD_sshiftRight]
  simp [h]
theorem bit_one {x j : Nat} (h : x < 32) (hj : j < 32) : ((1 : Int32) <<< (nI x &&& 31)).toBitVec.getLsbD j = decide (j = x) := by
  rw [mask31 h, Int32.toBitVec_shiftLeft, BitVec.shiftLeft_eq', smod32 h]
  rw [BitVec.getLsbD_shiftLeft]
  have e1 : (1 : Int32).toBitVec = 1#32 := rfl
  rw [e1, BitVec.getLsbD_one]
  by_cases e : j = x
  · subst e
    simp [hj]
  · by_cases e2 : j < x
    · simp [hj, e, e2]
    · simp [hj, e, e2]
      omega
theorem bit_or {w : Int32} {x j : Nat} (h : x < 32) (hj : j < 32) : bit1 (w ||| ((1 : Int32) <<< (nI x &&& 31))) (nI j) = if j = x then 1 else bit1 w (nI j) := by
  rw [bit1_if hj, bit1_if hj, Int32.toBitVec_or, BitVec.getLsbD_or, bit_one h hj]
  by_cases e : j = x
  · simp [e]
  · simp [e]
theorem bit_01 {w : Int32} {x : Nat} (h : x < 32) : bit1 w (nI x) = 0 ∨ bit1 w (nI x) = 1 := by
  rw [bit1_if h]
  split
  · exact Or.inr rfl
  · exact Or.inl rfl
theorem bit_ne {w : Int32} {x : Nat} (h : x < 32) : bit1 w (nI x) = 1 ↔ ¬ bit1 w (nI x) = 0 := by
  rcases bit_01 (w := w) h with e | e <;> rw [e] <;> decide
/-! strokes: of two kinds (0: to the right, 1: up), by their lesser point -/
def Str (R U : Nat → Int32) (e x y : Nat) : Prop := x < 16 ∧ y < 16 ∧ ((e = 0 ∧ bit1 (R y) (nI x) = 1) ∨ (e = 1 ∧ bit1 (U y) (nI x) = 1))
def MM (R U : Nat → Int32) (a b c d : Nat) : Prop := (∀ e x y, Str R U e x y → a ≤ x ∧ b ≤ y ∧ x + (1 - e) ≤ c ∧ y + e ≤ d) ∧ (∃ e x y, Str R U e x y ∧ x = a) ∧ (∃ e x y, Str R U e x y ∧ y = b) ∧ (∃ e x y, Str R U e x y ∧ x + (1 - e) = c) ∧ ∃ e x y, Str R U e x y ∧ y + e = d
def Box (c : Nat) (R U : Nat → Int32) (st lx ly gx gy : Int32) : Prop := ∃ k, k ≤ c ∧ st = nI k ∧ (k = 0 → ∀ e x y, ¬ Str R U e x y) ∧ (0 < k → ∃ a b c9 d, lx = nI a ∧ ly = nI b ∧ gx = nI c9 ∧ gy = nI d ∧ MM R U a b c9 d)
