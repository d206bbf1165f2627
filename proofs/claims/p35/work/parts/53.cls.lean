/-! THE CLASS's RUN: the core -/
def CQ (g : Nat → Nat) (ms : Nat) (X : Mem) (s : Cor) : Prop := match s with
  | (x, y, h, d, f, c, nm, R, U, sa) => mI X 800 (g 1) = x ∧ mI X 801 (g 1) = y ∧ mI X 802 (g 1) = h ∧ mI X 803 (g 1) = d ∧ mI X 708 (g 0) = f ∧ mI X 707 (g 0) = nI c ∧ mI X 706 (g 0) = nI ms ∧ (∀ j, j < 4 → aI X (g 2) j = nm j) ∧ (∀ j, j < 16 → aI X (g 6) j = R j) ∧ (∀ j, j < 16 → aI X (g 7) j = U j) ∧ mI X 202 (g 5) = sa c ∧ Box c R U (sa c) (mI X 203 (g 5)) (mI X 204 (g 5)) (mI X 205 (g 5)) (mI X 206 (g 5))
theorem c_onG {X : Mem} {v : Int32} : fX11_isOnGround X v = some (if onG v then 1 else 0) := by
  unfold fX11_isOnGround
  by_cases h1 : v < 0
  · rw [if_pos h1, if_neg (fun q => Int32.lt_irrefl (Int32.lt_of_lt_of_le h1 q.1))]
  · rw [if_neg h1]
    have e : (16 : Int32) ≤ v ↔ ¬ v ≤ 15 := by
      rw [Int32.le_iff_toInt_le, Int32.le_iff_toInt_le, show (16 : Int32).toInt = 16 from rfl, show (15 : Int32).toInt = 15 from rfl]
      omega
    by_cases h2 : v ≤ 15
    · rw [if_neg (fun q => e.mp q h2), if_pos ⟨Int32.not_lt.mp h1, h2⟩]
    · rw [if_pos (e.mpr h2), if_neg (fun q => h2 q.2)]
theorem c_aheadX {X : Mem} {t : Nat} (hk : mK X t = some (8, 0)) : fX8_aheadX X t = some (ahX (mI X 802 t)) := by
  unfold fX8_aheadX ahX
  rw [if_pos hk]
  split
  · rfl
  · split <;> rfl
theorem c_aheadY {X : Mem} {t : Nat} (hk : mK X t = some (8, 0)) : fX8_aheadY X t = some (ahY (mI X 802 t)) := by
  unfold fX8_aheadY ahY
  rw [if_pos hk]
  split
  · rfl
  · split <;> rfl
theorem c_canGo {X : Mem} {t : Nat} (hk : mK X t = some (8, 0)) : fX8_canGo X t = some (if onG (mI X 800 t + ahX (mI X 802 t)) ∧ onG (mI X 801 t + ahY (mI X 802 t)) then 1 else 0) := by
  unfold fX8_canGo
  rw [if_pos hk, c_aheadX hk, bi_some, c_onG, bi_some, c_aheadY hk, bi_some, c_onG, bi_some]
  by_cases h1 : onG (mI X 800 t + ahX (mI X 802 t))
  · rw [if_pos h1, if_neg (by decide)]
    by_cases h2 : onG (mI X 801 t + ahY (mI X 802 t))
    · rw [if_pos h2, if_neg (by decide), if_pos ⟨h1, h2⟩]
    · rw [if_neg h2, if_pos rfl, if_neg (fun q => h2 q.2)]
  · rw [if_neg h1, if_pos rfl, if_neg (fun q => h1 q.1)]
theorem c_takeIn {X : Mem} {a : Nat} {x y fx fy : Int32} (hk : mK X a = some (2, 0)) : fX2_takeIn X a x y fx fy = some (wI (wI (wI (wI X 203 a (tkL (mI X 202 a) x (mI X 203 a))) 204 a (tkL (mI X 202 a) y (mI X 204 a))) 205 a (tkG (mI X 202 a) fx (mI X 205 a))) 206 a (tkG (mI X 202 a) fy (mI X 206 a))) := by
  have e113 : ∀ X1 v, mK X1 a = some (2, 0) → fX2_takeIn_L113 X1 a v = some (wI X1 206 a v) := fun X1 v h => if_pos h
  have e86 : ∀ X1 f v, mK X1 a = some (2, 0) → fX2_takeIn_L86 X1 a fy f a v = some (wI (wI X1 205 a v) 206 a (if f = 0 then (if fy ≤ mI X1 206 a then mI X1 206 a else fy) else fy)) := by
    intro X1 f v h
    unfold fX2_takeIn_L86 fX2_takeIn_L104
    rw [if_pos h]
    have m : mI (wI X1 205 a v) 206 a = mI X1 206 a := by rw [mI_wI, if_neg (by omega)]
    by_cases e : f = 0
    · rw [if_pos e, if_pos e, if_pos (show mK (wI X1 205 a v) a = some (2, 0) from h), m]
      split
      · exact e113 _ _ h
      · exact e113 _ _ h
    · rw [if_neg e, if_neg e]
      exact e113 _ _ h
  have e61 : ∀ X1 f v, mK X1 a = some (2, 0) → fX2_takeIn_L61 X1 a fx fy f a v = some (wI (wI (wI X1 204 a v) 205 a (if f = 0 then (if fx ≤ mI X1 205 a then mI X1 205 a else fx) else fx)) 206 a (if f = 0 then (if fy ≤ mI X1 206 a then mI X1 206 a else fy) else fy)) := by
    intro X1 f v h
    unfold fX2_takeIn_L61 fX2_takeIn_L78
    rw [if_pos h]
    have m : mI (wI X1 204 a v) 205 a = mI X1 205 a := by rw [mI_wI, if_neg (by omega)]
    have m2 : mI (wI X1 204 a v) 206 a = mI X1 206 a := by rw [mI_wI, if_neg (by omega)]
    by_cases e : f = 0
    · rw [if_pos e, if_pos e, if_pos (show mK (wI X1 204 a v) a = some (2, 0) from h), m]
      split
      · rw [e86 _ _ _ (show mK (wI X1 204 a v) a = some (2, 0) from h), m2, if_pos e]
      · rw [e86 _ _ _ (show mK (wI X1 204 a v) a = some (2, 0) from h), m2, if_pos e]
    · rw [if_neg e, if_neg e, e86 _ _ _ (show mK (wI X1 204 a v) a = some (2, 0) from h), m2]
  have e36 : ∀ X1 f v, mK X1 a = some (2, 0) → fX2_takeIn_L36 X1 a y fx fy f a v = some (wI (wI (wI (wI X1 203 a v) 204 a (if f = 0 then (if mI X1 204 a ≤ y then mI X1 204 a else y) else y)) 205 a (if f = 0 then (if fx ≤ mI X1 205 a then mI X1 205 a else fx) else fx)) 206 a (if f = 0 then (if fy ≤ mI X1 206 a then mI X1 206 a else fy) else fy)) := by
    intro X1 f v h
    unfold fX2_takeIn_L36 fX2_takeIn_L53
    rw [if_pos h]
    have m : mI (wI X1 203 a v) 204 a = mI X1 204 a := by rw [mI_wI, if_neg (by omega)]
    have m1 : mI (wI X1 203 a v) 205 a = mI X1 205 a := by rw [mI_wI, if_neg (by omega)]
    have m2 : mI (wI X1 203 a v) 206 a = mI X1 206 a := by rw [mI_wI, if_neg (by omega)]
    by_cases e : f = 0
    · rw [if_pos e, if_pos e, if_pos (show mK (wI X1 203 a v) a = some (2, 0) from h), m]
      split
      · rw [e61 _ _ _ (show mK (wI X1 203 a v) a = some (2, 0) from h), m1, m2, if_pos e, if_pos e]
      · rw [e61 _ _ _ (show mK (wI X1 203 a v) a = some (2, 0) from h), m1, m2, if_pos e, if_pos e]
    · rw [if_neg e, if_neg e, e61 _ _ _ (show mK (wI X1 203 a v) a = some (2, 0) from h), m1, m2]
  unfold fX2_takeIn fX2_takeIn_L12 fX2_takeIn_L28
  rw [if_pos hk]
  unfold tkL tkG
  by_cases e : mI X 202 a = 0
  · rw [if_pos e, if_neg (by decide), e36 _ _ _ hk]
    simp only [if_pos e, if_neg (show ¬ (1 : Int32) = 0 by decide)]
  · rw [if_neg e, if_pos rfl, if_pos hk]
    simp only [if_neg e]
    split
    · rw [e36 _ _ _ hk]
      simp only [if_true]
    · rw [e36 _ _ _ hk]
      simp only [if_true]
/-- a stroke comes to the drawing a whose rows of that kind lie at r, or is there -/
theorem c_draw {X : Mem} {a r lx ly : Nat} {u : Int32} (hk : mK X a = some (2, 0)) (hr : mK X r = some (20, 16)) (hx : lx < 16) (hy : ly < 16) (hu : (u = 0 ∧ mR X 200 a = some r) ∨ (u = 1 ∧ mR X 201 a = some r)) :
    fX2_draw X a (nI lx) (nI ly) u = some (if bit1 (aI X r ly) (nI lx) = 0 then wI (wI (wI (wI (wI (sI X r ly (aI X r ly ||| ((1 : Int32) <<< (nI lx &&& 31)))) 203 a (tkL (mI X 202 a) (nI lx) (mI X 203 a))) 204 a (tkL (mI X 202 a) (nI ly) (mI X 204 a))) 205 a (tkG (mI X 202 a) (if u = 0 then nI (lx + 1) else nI lx) (mI X 205 a))) 206 a (tkG (mI X 202 a) (if u = 0 then nI ly else nI (ly + 1)) (mI X 206 a))) 202 a (mI X 202 a + 1) else X) := by
  have hin : inb X 0 r (nI ly) = true := inb_of (t := 0) hr hy (by decide)
  have e15 : fX2_draw X a (nI lx) (nI ly) u = fX2_draw_L15 X a (nI lx) (nI ly) u (some r) := by
    unfold fX2_draw
    rcases hu with ⟨e, h⟩ | ⟨e, h⟩
    · rw [if_pos e, if_pos hk, h]
    · rw [if_neg (by rw [e]; decide), if_pos hk, h]
  rw [e15]
  unfold fX2_draw_L15
  rw [c_onG, bi_some, if_pos (onG_nI hx), if_neg (by decide), if_neg (nI_pos (by omega)), bi_some, alen_of hr (by decide), bi_some, if_neg (fun q => by have := (nI_leI (by omega) (by omega)).mp q; omega), if_pos hin, nI_clamp (by omega)]
  by_cases eb : bit1 (aI X r ly) (nI lx) = 0
  · rw [if_neg (show ¬ (aI X r ly >>> (nI lx &&& 31)) &&& 1 = 1 from fun q => by have : bit1 (aI X r ly) (nI lx) = 1 := q; rw [eb] at this; exact absurd this (by decide)), if_pos hin, if_pos hin, if_pos eb]
    unfold fX2_draw_L72 fX2_draw_L83
    have hk' : ∀ v, mK (sI X r ly v) a = some (2, 0) := fun v => hk
    have fin : ∀ (v x y fx fy : Int32), (Option.bind (fX2_takeIn (sI X r ly v) a x y fx fy) fun X83 => (if mK X83 a = some (2, 0) then (some (wI X83 202 a ((mI X83 202 a) + (1 : Int32)))) else none)) = some (wI (wI (wI (wI (wI (sI X r ly v) 203 a (tkL (mI X 202 a) x (mI X 203 a))) 204 a (tkL (mI X 202 a) y (mI X 204 a))) 205 a (tkG (mI X 202 a) fx (mI X 205 a))) 206 a (tkG (mI X 202 a) fy (mI X 206 a))) 202 a (mI X 202 a + 1)) := by
      intro v x y fx fy
      rw [c_takeIn (hk' v), bi_some]
      refine (if_pos hk).trans ?_
      congr 2
    by_cases e0 : u = 0
    · simp only [if_pos e0, if_pos (hk' _), fin, nI_1]
    · simp only [if_neg e0, if_pos (hk' _), fin, nI_1]
  · have e1 : bit1 (aI X r ly) (nI lx) = 1 := (bit_01 (by omega)).resolve_left eb
    rw [if_pos (show (aI X r ly >>> (nI lx &&& 31)) &&& 1 = 1 from e1), if_neg eb]
