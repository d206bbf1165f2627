/-! the codes of class and reference tell the same apart -/
def ntC (k tg nn w : Nat) : Nat := (k * 16 + tg * 2 + nn) * 256 + w
/-- the class's code of an order -/
def cdC (K T V N : Nat → Int32) (k : Nat) : Int32 := ((((K k <<< ((4 : Int32) &&& 31)) ||| (fTg K T V N k <<< ((1 : Int32) &&& 31))) ||| N k) <<< ((8 : Int32) &&& 31)) ||| (fVa K T V N k + 99)
theorem cd_head : ∀ k, k < 9 → ∀ t, t < 4 → ∀ nn, nn < 2 → (((nI k <<< ((4 : Int32) &&& 31)) ||| (nI t <<< ((1 : Int32) &&& 31))) ||| nI nn) <<< ((8 : Int32) &&& 31) = nI ((k * 16 + t * 2 + nn) * 256) := by decide +kernel
theorem cd_low : ∀ h, h < 160 → ∀ w, w < 199 → nI (h * 256) ||| nI w = nI (h * 256 + w) := by decide +kernel
theorem v99 {v : Int32} (h1 : -99 ≤ v) (h2 : v ≤ 99) : ∃ w, w < 199 ∧ v = nI w - 99 ∧ v + 99 = nI w ∧ (100 : Int32) + v = nI (w + 1) := by
  have a := Int32.le_iff_toInt_le.mp h1
  have b := Int32.le_iff_toInt_le.mp h2
  have e1 : (-99 : Int32).toInt = -99 := by decide
  have e2 : (99 : Int32).toInt = 99 := by decide
  rw [e1] at a; rw [e2] at b
  have e : v = nI (v.toInt + 99).toNat - 99 := by
    apply Int32.toInt_inj.mp
    rw [show (99 : Int32) = nI 99 from rfl, pk_sub_toInt (by omega) (by omega)]
    omega
  refine ⟨(v.toInt + 99).toNat, by omega, e, ?_, ?_⟩
  · rw [e, Int32.sub_add_cancel, ← e]
  · have e3 : (100 : Int32) + v = (v + 99) + 1 := by
      rw [Int32.add_assoc, show (99 : Int32) + 1 = 100 from by decide, Int32.add_comm]
    rw [e3]
    rw [show v + 99 = nI (v.toInt + 99).toNat by rw [e, Int32.sub_add_cancel, ← e], nI_1]
/-- an order's code in numbers: kind, target, name or not, value and 99 -/
theorem cd_n {K T V N : Nat → Int32} {n k : Nat} (hP : VP K T V N n) (hk : k < n) : ∃ a t nn w, a < 9 ∧ t < 4 ∧ nn < 2 ∧ w < 199 ∧ cdC K T V N k = nI ((a * 16 + t * 2 + nn) * 256 + w) ∧ cdR K T V N k = nI (10000 * a + 1000 * t + (if nn = 0 then w + 1 else 500 + (w - 99))) ∧ (nn = 1 → 99 ≤ w ∧ w < 103) := by
  have hK := hP.2.2.2.1 k hk
  obtain ⟨a, ha, ea⟩ := nI_of2 (M := 8) (n := 8) rfl (fun q => Int32.lt_irrefl (Int32.lt_of_lt_of_le q hK.1)) hK.2
  obtain ⟨t, ht, et⟩ := fTg_ok hP hk
  obtain ⟨f0, f1⟩ := fVa_ok hP hk
  rcases hP.2.2.2.2.2.1 k hk with ⟨e, b1, b2⟩ | ⟨e, b1, b2⟩
  · obtain ⟨w, hw, -, w2, w3⟩ := v99 b1 b2
    refine ⟨a, t, 0, w, by omega, ht, by decide, hw, ?_, ?_, fun q => absurd q (by decide)⟩
    · unfold cdC
      rw [f0 e, w2, ea, et, e, show (0 : Int32) = nI 0 from rfl, cd_head a (by omega) t ht 0 (by decide), cd_low _ (by omega) w hw]
    · unfold cdR
      rw [if_pos e, if_pos rfl, w3, ea, et, show (10000 : Int32) = nI 10000 from rfl, show (1000 : Int32) = nI 1000 from rfl, pk_mul, pk_mul, nI_add, nI_add]
  · obtain ⟨j, hj, ej⟩ := f1 e
    refine ⟨a, t, 1, j + 99, by omega, ht, by decide, by omega, ?_, ?_, fun _ => by omega⟩
    · unfold cdC
      rw [ej, ea, et, show N k = nI 1 from e, show (99 : Int32) = nI 99 from rfl, nI_add, cd_head a (by omega) t ht 1 (by decide), cd_low _ (by omega) (j + 99) (by omega)]
    · unfold cdR
      rw [if_neg (by rw [e]; decide), if_neg (by decide), ej, ea, et, show (10000 : Int32) = nI 10000 from rfl, show (1000 : Int32) = nI 1000 from rfl, show (500 : Int32) = nI 500 from rfl, pk_mul, pk_mul, nI_add, nI_add, nI_add, Nat.add_sub_cancel]
theorem cd_eq {K T V N K' T' V' N' : Nat → Int32} {n n' k k' : Nat} (hP : VP K T V N n) (hP' : VP K' T' V' N' n') (hk : k < n) (hk' : k' < n') : cdC K T V N k = cdC K' T' V' N' k' ↔ cdR K T V N k = cdR K' T' V' N' k' := by
  obtain ⟨a, t, nn, w, h1, h2, h3, h4, h5, h6, h7⟩ := cd_n hP hk
  obtain ⟨a', t', nn', w', h1', h2', h3', h4', h5', h6', h7'⟩ := cd_n hP' hk'
  rw [h5, h6, h5', h6', nI_eq (by omega) (by omega), nI_eq (by split <;> omega) (by split <;> omega)]
  constructor
  · intro e
    have e1 : a = a' := by omega
    have e2 : t = t' := by omega
    have e3 : nn = nn' := by omega
    have e4 : w = w' := by omega
    rw [e1, e2, e3, e4]
  · intro e
    by_cases z : nn = 0 <;> by_cases z' : nn' = 0
    · rw [if_pos z, if_pos z'] at e
      have e1 : a = a' := by omega
      have e2 : t = t' := by omega
      have e4 : w = w' := by omega
      rw [e1, e2, z, z', e4]
    · rw [if_pos z, if_neg z'] at e
      have := h7' (by omega)
      omega
    · rw [if_neg z, if_pos z'] at e
      have := h7 (by omega)
      omega
    · rw [if_neg z, if_neg z'] at e
      have q1 := h7 (by omega)
      have q2 := h7' (by omega)
      have e1 : a = a' := by omega
      have e2 : t = t' := by omega
      have e4 : w = w' := by omega
      have e3 : nn = nn' := by omega
      rw [e1, e2, e3, e4]
