/-! THE LAW's BOX of a drawing, point by point -/
def gR (R : Nat → Int32) (i : Nat) : Int32 := if bit1 (R (i / 16)) (nI (i % 16)) = 1 then 1 else 0
def minI (a x : Int32) : Int32 := if a ≤ x then a else x
def maxI (a x : Int32) : Int32 := if x ≤ a then a else x
def bxS (R U : Nat → Int32) (i : Nat) (s : Int32 × Int32 × Int32 × Int32) : Int32 × Int32 × Int32 × Int32 :=
  if gR R i = 0 ∧ gR U i = 0 then s else (minI s.1 (nI (i % 16)), minI s.2.1 (nI (i / 16)), maxI s.2.2.1 (if gR R i = 0 then nI (i % 16) else nI (i % 16) + 1), maxI s.2.2.2 (if gR U i = 0 then nI (i / 16) else nI (i / 16) + 1))
def bxR (R U : Nat → Int32) : Nat → Int32 × Int32 × Int32 × Int32
  | 0 => (16, 16, -1, -1)
  | i + 1 => bxS R U i (bxR R U i)
theorem gR01 {R : Nat → Int32} {i : Nat} : gR R i = 0 ∨ gR R i = 1 := by
  unfold gR
  split
  · exact Or.inr rfl
  · exact Or.inl rfl
theorem gR1 {R : Nat → Int32} {i : Nat} (h : ¬ gR R i = 0) : bit1 (R (i / 16)) (nI (i % 16)) = 1 := by
  unfold gR at h
  by_cases e : bit1 (R (i / 16)) (nI (i % 16)) = 1
  · exact e
  · rw [if_neg e] at h
    exact absurd rfl h
theorem gR0 {R : Nat → Int32} {i : Nat} (h : gR R i = 0) : ¬ bit1 (R (i / 16)) (nI (i % 16)) = 1 := by
  intro e
  unfold gR at h
  rw [if_pos e] at h
  exact absurd h (by decide)
def StrM (R U : Nat → Int32) (m e x y : Nat) : Prop := Str R U e x y ∧ 16 * y + x < m
def MMm (R U : Nat → Int32) (m a b c d : Nat) : Prop := (∀ e x y, StrM R U m e x y → a ≤ x ∧ b ≤ y ∧ x + (1 - e) ≤ c ∧ y + e ≤ d) ∧ (∃ e x y, StrM R U m e x y ∧ x = a) ∧ (∃ e x y, StrM R U m e x y ∧ y = b) ∧ (∃ e x y, StrM R U m e x y ∧ x + (1 - e) = c) ∧ ∃ e x y, StrM R U m e x y ∧ y + e = d
section BX
variable {R U : Nat → Int32} {m : Nat}
theorem StrM.up {e x y : Nat} (h : StrM R U m e x y) : StrM R U (m + 1) e x y := ⟨h.1, by have := h.2; omega⟩
theorem StrM.dn {e x y : Nat} (h : StrM R U (m + 1) e x y) : StrM R U m e x y ∨ (x = m % 16 ∧ y = m / 16 ∧ ((e = 0 ∧ ¬ gR R m = 0) ∨ (e = 1 ∧ ¬ gR U m = 0))) := by
  obtain ⟨h1, h2⟩ := h
  by_cases q : 16 * y + x < m
  · exact Or.inl ⟨h1, q⟩
  · obtain ⟨h3, h4, h5⟩ := id h1
    have ex : x = m % 16 := by omega
    have ey : y = m / 16 := by omega
    refine Or.inr ⟨ex, ey, ?_⟩
    rcases h5 with ⟨e0, h5⟩ | ⟨e1, h5⟩
    · exact Or.inl ⟨e0, fun z => gR0 z (by rw [← ex, ← ey]; exact h5)⟩
    · exact Or.inr ⟨e1, fun z => gR0 z (by rw [← ex, ← ey]; exact h5)⟩
theorem StrM.r (hm : m < 256) (h : ¬ gR R m = 0) : StrM R U (m + 1) 0 (m % 16) (m / 16) := ⟨⟨by omega, by omega, Or.inl ⟨rfl, gR1 h⟩⟩, by omega⟩
theorem StrM.u (hm : m < 256) (h : ¬ gR U m = 0) : StrM R U (m + 1) 1 (m % 16) (m / 16) := ⟨⟨by omega, by omega, Or.inr ⟨rfl, gR1 h⟩⟩, by omega⟩
theorem MMm.lim {a b c d : Nat} (h : MMm R U m a b c d) : a < 16 ∧ b < 16 ∧ c ≤ 16 ∧ d ≤ 16 := by
  obtain ⟨h1, ⟨e1, x1, y1, s1, q1⟩, ⟨e2, x2, y2, s2, q2⟩, ⟨e3, x3, y3, s3, q3⟩, e4, x4, y4, s4, q4⟩ := h
  have a1 := s1.1.1
  have a2 := s2.1.2.1
  have a3 := s3.1.1
  have a4 := s4.1.2.1
  have a5 : e4 ≤ 1 := by
    rcases s4.1.2.2 with ⟨z, -⟩ | ⟨z, -⟩ <;> omega
  omega
theorem minI_n {a x : Nat} (ha : a < 100) (hx : x < 100) : minI (nI a) (nI x) = nI (if a ≤ x then a else x) := by
  unfold minI
  by_cases h : a ≤ x
  · rw [if_pos ((nI_leI (by omega) (by omega)).mpr h), if_pos h]
  · rw [if_neg (fun q => h ((nI_leI (by omega) (by omega)).mp q)), if_neg h]
theorem maxI_n {a x : Nat} (ha : a < 100) (hx : x < 100) : maxI (nI a) (nI x) = nI (if x ≤ a then a else x) := by
  unfold maxI
  by_cases h : x ≤ a
  · rw [if_pos ((nI_leI (by omega) (by omega)).mpr h), if_pos h]
  · rw [if_neg (fun q => h ((nI_leI (by omega) (by omega)).mp q)), if_neg h]
theorem maxI_m {x : Nat} (hx : x < 100) : maxI (-1) (nI x) = nI x := by
  unfold maxI
  rw [if_neg]
  intro q
  have := Int32.le_iff_toInt_le.mp q
  rw [nI_toInt (by omega), show (-1 : Int32).toInt = -1 by decide] at this
  omega
/-- a point more -/
theorem MMm.st {a b c d : Nat} (hm : m < 256) (h : MMm R U m a b c d) (hs : ¬ (gR R m = 0 ∧ gR U m = 0)) : MMm R U (m + 1) (if a ≤ m % 16 then a else m % 16) (if b ≤ m / 16 then b else m / 16) (if (if gR R m = 0 then m % 16 else m % 16 + 1) ≤ c then c else (if gR R m = 0 then m % 16 else m % 16 + 1)) (if (if gR U m = 0 then m / 16 else m / 16 + 1) ≤ d then d else (if gR U m = 0 then m / 16 else m / 16 + 1)) := by
  obtain ⟨h1, ⟨e1, x1, y1, s1, q1⟩, ⟨e2, x2, y2, s2, q2⟩, ⟨e3, x3, y3, s3, q3⟩, e4, x4, y4, s4, q4⟩ := h
  have new : ∃ e, StrM R U (m + 1) e (m % 16) (m / 16) := by
    by_cases q : gR R m = 0
    · exact ⟨1, StrM.u hm (fun z => hs ⟨q, z⟩)⟩
    · exact ⟨0, StrM.r hm q⟩
  have mx : ∀ q c : Nat, c ≤ (if q ≤ c then c else q) ∧ q ≤ (if q ≤ c then c else q) := fun q c => by split <;> omega
  have mn : ∀ q a : Nat, (if a ≤ q then a else q) ≤ a ∧ (if a ≤ q then a else q) ≤ q := fun q a => by split <;> omega
  refine ⟨fun e x y s => ?_, ?_, ?_, ?_, ?_⟩
  · rcases s.dn with q | ⟨ex, ey, q⟩
    · obtain ⟨k1, k2, k3, k4⟩ := h1 e x y q
      exact ⟨Nat.le_trans (mn _ _).1 k1, Nat.le_trans (mn _ _).1 k2, Nat.le_trans k3 (mx _ _).1, Nat.le_trans k4 (mx _ _).1⟩
    · rw [ex, ey]
      refine ⟨(mn _ _).2, (mn _ _).2, Nat.le_trans ?_ (mx _ _).2, Nat.le_trans ?_ (mx _ _).2⟩
      · rcases q with ⟨e0, q⟩ | ⟨e0, q⟩
        · rw [if_neg q]
          omega
        · split <;> omega
      · rcases q with ⟨e0, q⟩ | ⟨e0, q⟩
        · split <;> omega
        · rw [if_neg q]
          omega
  · split
    · exact ⟨e1, x1, y1, s1.up, q1⟩
    · obtain ⟨e, s⟩ := new
      exact ⟨e, _, _, s, rfl⟩
  · split
    · exact ⟨e2, x2, y2, s2.up, q2⟩
    · obtain ⟨e, s⟩ := new
      exact ⟨e, _, _, s, rfl⟩
  · by_cases q : gR R m = 0
    · rw [if_pos q]
      split
      · exact ⟨e3, x3, y3, s3.up, q3⟩
      · exact ⟨1, _, _, StrM.u hm (fun z => hs ⟨q, z⟩), rfl⟩
    · rw [if_neg q]
      split
      · exact ⟨e3, x3, y3, s3.up, q3⟩
      · exact ⟨0, _, _, StrM.r hm q, rfl⟩
  · by_cases q : gR U m = 0
    · rw [if_pos q]
      split
      · exact ⟨e4, x4, y4, s4.up, q4⟩
      · exact ⟨0, _, _, StrM.r hm (fun z => hs ⟨z, q⟩), rfl⟩
    · rw [if_neg q]
      split
      · exact ⟨e4, x4, y4, s4.up, q4⟩
      · exact ⟨1, _, _, StrM.u hm q, rfl⟩
theorem MMm.first (hm : m < 256) (h0 : ∀ e x y, ¬ StrM R U m e x y) (hs : ¬ (gR R m = 0 ∧ gR U m = 0)) : MMm R U (m + 1) (m % 16) (m / 16) (if gR R m = 0 then m % 16 else m % 16 + 1) (if gR U m = 0 then m / 16 else m / 16 + 1) := by
  have new : ∃ e, StrM R U (m + 1) e (m % 16) (m / 16) := by
    by_cases q : gR R m = 0
    · exact ⟨1, StrM.u hm (fun z => hs ⟨q, z⟩)⟩
    · exact ⟨0, StrM.r hm q⟩
  obtain ⟨e9, s9⟩ := new
  refine ⟨fun e x y s => ?_, ⟨e9, _, _, s9, rfl⟩, ⟨e9, _, _, s9, rfl⟩, ?_, ?_⟩
  · rcases s.dn with q | ⟨ex, ey, q⟩
    · exact absurd q (h0 e x y)
    · rcases q with ⟨e0, q⟩ | ⟨e0, q⟩
      · rw [if_neg q]
        refine ⟨by omega, by omega, by omega, ?_⟩
        split <;> omega
      · rw [if_neg q]
        refine ⟨by omega, by omega, ?_, by omega⟩
        split <;> omega
  · by_cases q : gR R m = 0
    · rw [if_pos q]
      exact ⟨1, _, _, StrM.u hm (fun z => hs ⟨q, z⟩), rfl⟩
    · rw [if_neg q]
      exact ⟨0, _, _, StrM.r hm q, rfl⟩
  · by_cases q : gR U m = 0
    · rw [if_pos q]
      exact ⟨0, _, _, StrM.r hm (fun z => hs ⟨z, q⟩), rfl⟩
    · rw [if_neg q]
      exact ⟨1, _, _, StrM.u hm q, rfl⟩
theorem bx_ok : ∀ m, m ≤ 256 → ((∀ e x y, ¬ StrM R U m e x y) ∧ bxR R U m = (16, 16, -1, -1)) ∨ ∃ a b c d, bxR R U m = (nI a, nI b, nI c, nI d) ∧ MMm R U m a b c d := by
  intro m
  induction m with
  | zero => intro _; exact Or.inl ⟨fun e x y h => absurd h.2 (Nat.not_lt_zero _), rfl⟩
  | succ m ih =>
    intro hm
    have hm : m < 256 := hm
    show ((∀ e x y, ¬ StrM R U (m + 1) e x y) ∧ bxS R U m (bxR R U m) = (16, 16, -1, -1)) ∨ ∃ a b c d, bxS R U m (bxR R U m) = (nI a, nI b, nI c, nI d) ∧ MMm R U (m + 1) a b c d
    have i1 : (if gR R m = 0 then nI (m % 16) else nI (m % 16) + 1) = nI (if gR R m = 0 then m % 16 else m % 16 + 1) := by
      split
      · rfl
      · rw [nI_1]
    have i2 : (if gR U m = 0 then nI (m / 16) else nI (m / 16) + 1) = nI (if gR U m = 0 then m / 16 else m / 16 + 1) := by
      split
      · rfl
      · rw [nI_1]
    have b1 : (if gR R m = 0 then m % 16 else m % 16 + 1) < 100 := by split <;> omega
    have b2 : (if gR U m = 0 then m / 16 else m / 16 + 1) < 100 := by split <;> omega
    unfold bxS
    rw [i1, i2]
    by_cases hs : gR R m = 0 ∧ gR U m = 0
    · rw [if_pos hs]
      have same : ∀ e x y, StrM R U (m + 1) e x y ↔ StrM R U m e x y := by
        intro e x y
        refine ⟨fun h => ?_, fun h => h.up⟩
        rcases h.dn with q | ⟨-, -, q⟩
        · exact q
        · rcases q with ⟨-, q⟩ | ⟨-, q⟩
          · exact absurd hs.1 q
          · exact absurd hs.2 q
      rcases ih (by omega) with ⟨h1, h2⟩ | ⟨a, b, c, d, h1, h2⟩
      · exact Or.inl ⟨fun e x y h => h1 e x y ((same e x y).mp h), h2⟩
      · refine Or.inr ⟨a, b, c, d, h1, ?_⟩
        unfold MMm
        simp only [same]
        exact h2
    · rw [if_neg hs]
      rcases ih (by omega) with ⟨h1, h2⟩ | ⟨a, b, c, d, h1, h2⟩
      · refine Or.inr ⟨_, _, _, _, ?_, MMm.first hm h1 hs⟩
        rw [h2]
        dsimp only
        rw [maxI_m b1, maxI_m b2, show (16 : Int32) = nI 16 from rfl, minI_n (by omega) (by omega), minI_n (by omega) (by omega), if_neg (by omega), if_neg (by omega)]
      · have l := h2.lim
        refine Or.inr ⟨_, _, _, _, ?_, MMm.st hm h2 hs⟩
        rw [h1]
        dsimp only
        rw [maxI_n (by omega) b1, maxI_n (by omega) b2, minI_n (by omega) (by omega), minI_n (by omega) (by omega)]
theorem MM_un {a b c d a' b' c' d' : Nat} (h : MM R U a b c d) (k : MM R U a' b' c' d') : a = a' ∧ b = b' ∧ c = c' ∧ d = d' := by
  obtain ⟨h1, ⟨e1, x1, y1, s1, q1⟩, ⟨e2, x2, y2, s2, q2⟩, ⟨e3, x3, y3, s3, q3⟩, e4, x4, y4, s4, q4⟩ := h
  obtain ⟨k1, ⟨f1, u1, v1, t1, r1⟩, ⟨f2, u2, v2, t2, r2⟩, ⟨f3, u3, v3, t3, r3⟩, f4, u4, v4, t4, r4⟩ := k
  have a1 := k1 _ _ _ s1
  have a2 := k1 _ _ _ s2
  have a3 := k1 _ _ _ s3
  have a4 := k1 _ _ _ s4
  have b1 := h1 _ _ _ t1
  have b2 := h1 _ _ _ t2
  have b3 := h1 _ _ _ t3
  have b4 := h1 _ _ _ t4
  omega
theorem nS_0 (h : ∀ e x y, ¬ Str R U e x y) : nS R U 256 = 0 := by
  have a1 : cnB (fun i => bit1 (R (i / 16)) (nI (i % 16)) = 1) 256 = 0 := cnB_z _ (fun i hi q => h 0 (i % 16) (i / 16) ⟨by omega, by omega, Or.inl ⟨rfl, q⟩⟩)
  have a2 : cnB (fun i => bit1 (U (i / 16)) (nI (i % 16)) = 1) 256 = 0 := cnB_z _ (fun i hi q => h 1 (i % 16) (i / 16) ⟨by omega, by omega, Or.inr ⟨rfl, q⟩⟩)
  unfold nS
  rw [a1, a2]
theorem nS_1 (i : Nat) : nI (nS R U (i + 1)) = nI (nS R U i) + (gR R i + gR U i) := by
  unfold nS gR
  by_cases h1 : bit1 (R (i / 16)) (nI (i % 16)) = 1
  · by_cases h2 : bit1 (U (i / 16)) (nI (i % 16)) = 1
    · rw [cnB_y h1, cnB_y h2, if_pos h1, if_pos h2, show (1 : Int32) + 1 = nI 2 from rfl, nI_add]
      congr 1
      omega
    · rw [cnB_y h1, cnB_n h2, if_pos h1, if_neg h2, show (1 : Int32) + 0 = nI 1 from rfl, nI_add]
      congr 1
      omega
  · by_cases h2 : bit1 (U (i / 16)) (nI (i % 16)) = 1
    · rw [cnB_n h1, cnB_y h2, if_neg h1, if_pos h2, show (0 : Int32) + 1 = nI 1 from rfl, nI_add]
      congr 1
    · rw [cnB_n h1, cnB_n h2, if_neg h1, if_neg h2, show (0 : Int32) + 0 = nI 0 from rfl, nI_add]
      rfl
end BX
/-- the box that the law finds is the program's -/
theorem GB.box {g : Pg} (h : GB g) : (pgk g = 0 ∧ bxR (cR (pgF g)) (cU (pgF g)) 256 = (16, 16, -1, -1) ∧ pga g = 0 ∧ pgb g = 0 ∧ pgc g = 0 ∧ pgd g = 0) ∨ (0 < pgk g ∧ bxR (cR (pgF g)) (cU (pgF g)) 256 = (nI (pga g), nI (pgb g), nI (pgc g), nI (pgd g)) ∧ pga g ≤ pgc g ∧ pgb g ≤ pgd g ∧ pgc g ≤ 15 ∧ pgd g ≤ 15) := by
  obtain ⟨s1, s2, s3, s4, s5, -⟩ := h.steps
  have h0 := h.2.2.2.2.1
  have h1 := h.2.2.2.2.2
  have st : ∀ e x y, StrM (cR (pgF g)) (cU (pgF g)) 256 e x y ↔ Str (cR (pgF g)) (cU (pgF g)) e x y := fun e x y => ⟨fun q => q.1, fun q => ⟨q, by have := q.1; have := q.2.1; omega⟩⟩
  rcases bx_ok (R := cR (pgF g)) (U := cU (pgF g)) 256 (Nat.le_refl _) with ⟨b1, b2⟩ | ⟨a, b, c, d, b1, b2⟩
  · have z : pgk g = 0 := by
      rw [← s4]
      exact nS_0 (fun e x y q => b1 e x y ((st e x y).mpr q))
    exact Or.inl ⟨z, b2, (h0 z).2⟩
  · have hM : MM (cR (pgF g)) (cU (pgF g)) a b c d := by
      unfold MMm at b2
      simp only [st] at b2
      exact b2
    have hk : 0 < pgk g := Nat.pos_of_ne_zero (fun z => by
      obtain ⟨-, ⟨e, x, y, s, -⟩, -⟩ := hM
      exact (h0 z).1 e x y s)
    obtain ⟨rfl, rfl, rfl, rfl⟩ := MM_un hM (h1 hk)
    refine Or.inr ⟨hk, b1, ?_⟩
    obtain ⟨m1, ⟨e1, x1, y1, t1, q1⟩, ⟨e2, x2, y2, t2, q2⟩, ⟨e3, x3, y3, t3, q3⟩, e4, x4, y4, t4, q4⟩ := hM
    have k3 := s3 _ _ _ t3
    have k4 := s3 _ _ _ t4
    have k1 := m1 _ _ _ t1
    have k2 := m1 _ _ _ t2
    omega
