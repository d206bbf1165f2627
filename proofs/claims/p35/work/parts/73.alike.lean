/-! the reference's greatest coordinates -/
def gC (isX : Int32) (e x y : Nat) : Nat := if isX = 0 then y + e else x + (1 - e)
def gV (isX rb ub : Int32) (k : Nat) : Nat := if isX = 0 then k / 16 + (if ub = 0 then 0 else 1) else k % 16 + (if rb = 0 then 0 else 1)
theorem q_g79 {fu k : Nat} {S : SM} {isX rb ub x1 a : Int32} {rec5 : Int32 → Int32 → Int32 → Int32 → Option Int32} (hk : k < 256) (hx : isX = 0 ∨ isX = 1) (hr : rb = 0 ∨ rb = 1) (hu : ub = 0 ∨ ub = 1) : fX12_greatestOf_L79 fu S rec5 x1 isX a (nI k) rb ub = if rb = 0 ∧ ub = 0 then rec5 x1 isX a (nI k + 1) else if nI (gV isX rb ub k) ≤ a then rec5 x1 isX a (nI k + 1) else rec5 x1 isX (nI (gV isX rb ub k)) (nI k + 1) := by
  have hd : nI k / (16 : Int32) = nI (k / 16) := pk_div (d := 16) (by omega) (by decide) (by decide)
  have hm : nI k - nI k / (16 : Int32) * (16 : Int32) = nI (k % 16) := pk_rem (d := 16) (by omega) (by decide) (by decide)
  unfold fX12_greatestOf_L79 fX12_greatestOf_L119 fX12_greatestOf_L100 fX12_greatestOf_L120 fX12_greatestOf_L132 fX12_greatestOf_L143 fX12_greatestOf_L144 gV
  rw [hm, hd]
  have n10 : ¬ (1 : Int32) = 0 := by decide
  rcases hx with rfl | rfl <;> rcases hr with rfl | rfl <;> rcases hu with rfl | rfl <;> simp only [n10, if_true, if_false, and_self, and_true, true_and, and_false, false_and, Int32.add_zero, Nat.add_zero, nI_1]
