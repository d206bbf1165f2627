/-! ROWS of a drawing have no bits beyond the ground -/
def RBr (R : Nat → Int32) : Prop := ∀ j b, 16 ≤ b → b < 32 → bit1 (R j) (nI b) = 0
def RB (s : Cor) : Prop := RBr (cR s) ∧ RBr (cU s)
theorem RBr.up {R : Nat → Int32} {i lx : Nat} (h : RBr R) (hx : lx < 16) : RBr (up1 R i (R i ||| ((1 : Int32) <<< (nI lx &&& 31)))) := by
  intro j b h1 h2
  show bit1 (if j = i then R i ||| ((1 : Int32) <<< (nI lx &&& 31)) else R j) (nI b) = 0
  by_cases e : j = i
  · rw [if_pos e, bit_or (by omega) h2, if_neg (by omega)]
    exact h i b h1 h2
  · rw [if_neg e]
    exact h j b h1 h2
theorem mvB_RB {x y h d f : Int32} {c : Nat} {nm R U sa : Nat → Int32} {nx ny : Int32} (hx : onG x) (hn : onG nx) (h1 : RBr R) (h2 : RBr U) : RB (mvB x y h d f c nm R U sa nx ny) := by
  obtain ⟨a, ha, rfl⟩ := onG_of hx
  obtain ⟨b, hb, rfl⟩ := onG_of hn
  obtain ⟨m, hm, em⟩ := minB_n ha hb
  unfold mvB
  rw [em]
  split
  · exact ⟨h1, h2⟩
  · split
    · split
      · exact ⟨h1, h2.up hm⟩
      · exact ⟨h1, h2⟩
    · split
      · exact ⟨h1.up hm, h2⟩
      · exact ⟨h1, h2⟩
theorem goB_RB {s : Cor} (hC : CI s) (h : RB s) : RB (goB s) := by
  obtain ⟨x, y, h9, d, f, c, nm, R, U, sa⟩ := s
  show RB (if c = 600 then _ else _)
  split
  · exact h
  · split
    · rename_i hg
      exact mvB_RB hC.1 hg.1 h.1 h.2
    · exact h
theorem fwB_RB : ∀ (k : Nat) {s : Cor}, CI s → RB s → RB (fwB k s) := by
  intro k
  induction k with
  | zero => intro s _ h; exact h
  | succ k ih =>
    intro s hC h
    show RB (if cF s = 0 then fwB k (goB s) else s)
    split
    · exact ih (goB_ok hC).1 (goB_RB hC h)
    · exact h
theorem fltB_RB {e : Int32} {s : Cor} (h : RB s) : RB (fltB e s) := by
  obtain ⟨x, y, h9, d, f, c, nm, R, U, sa⟩ := s
  exact h
theorem trnB_RB {e : Int32} {s : Cor} (h : RB s) : RB (trnB e s) := by
  obtain ⟨x, y, h9, d, f, c, nm, R, U, sa⟩ := s
  exact h
theorem penB_RB {e : Int32} {s : Cor} (h : RB s) : RB (penB e s) := by
  obtain ⟨x, y, h9, d, f, c, nm, R, U, sa⟩ := s
  exact h
theorem cntB_RB {s : Cor} (h : RB s) : RB (cntB s) := by
  obtain ⟨x, y, h9, d, f, c, nm, R, U, sa⟩ := s
  exact h
theorem putB_rows {t e : Int32} {s : Cor} : cR (putB t e s) = cR s ∧ cU (putB t e s) = cU s := by
  obtain ⟨x, y, h9, d, f, c, nm, R, U, sa⟩ := s
  by_cases h : -999 ≤ e ∧ e ≤ 999
  · have k : putB t e (x, y, h9, d, f, c, nm, R, U, sa) = (x, y, h9, d, f, c, up1 nm t.toNatClampNeg e, R, U, sa) := if_pos h
    rw [k]
    exact ⟨rfl, rfl⟩
  · have k : putB t e (x, y, h9, d, f, c, nm, R, U, sa) = (x, y, h9, d, 3, c, nm, R, U, sa) := if_neg h
    rw [k]
    exact ⟨rfl, rfl⟩
theorem putB_RB {t e : Int32} {s : Cor} (h : RB s) : RB (putB t e s) := by
  unfold RB
  rw [putB_rows.1, putB_rows.2]
  exact h
theorem doB_RB {K T : Nat → Int32} {i : Nat} {cl : Nat → Nat} {ws : Int32 → Option Nat} {st : Stk} {s1 : Cor} {v : Int32} (hc' : CI s1) (h' : RB s1) : RB (doB K T cl ws i st s1 v).2.2 := by
  unfold doB
  by_cases e0 : K i = 0
  · rw [if_pos e0]
    show RB (if v < 0 then fltB 3 s1 else fwB v.toNatClampNeg s1)
    by_cases ev : v < 0
    · rw [if_pos ev]; exact fltB_RB h'
    · rw [if_neg ev]; exact fwB_RB _ hc' h'
  rw [if_neg e0]
  by_cases e1 : K i = 1
  · rw [if_pos e1]; exact trnB_RB h'
  rw [if_neg e1]
  by_cases e2 : K i = 2
  · rw [if_pos e2]; exact penB_RB h'
  rw [if_neg e2]
  by_cases e3 : K i = 3
  · rw [if_pos e3]; exact putB_RB h'
  rw [if_neg e3]
  by_cases e4 : K i = 4
  · rw [if_pos e4]; exact putB_RB h'
  rw [if_neg e4]
  by_cases e5 : K i = 5
  · rw [if_pos e5]
    by_cases e6 : v ≤ 0 ∨ cl i = i + 1
    · rw [if_pos e6]; exact h'
    · rw [if_neg e6]; exact h'
  rw [if_neg e5]
  cases ws (T i) with
  | none => exact fltB_RB h'
  | some w =>
    show RB (if calls st = 8 then (i + 1, st, fltB 4 s1) else (w + 1, (i, -1) :: st, s1) : Nat × Stk × Cor).2.2
    by_cases e8 : calls st = 8
    · rw [if_pos e8]; exact fltB_RB h'
    · rw [if_neg e8]; exact h'
theorem stB_RB {K T V N : Nat → Int32} {n i : Nat} {cl : Nat → Nat} {ws : Int32 → Option Nat} {st : Stk} {s : Cor} (hB : BI K n i st s) (h : RB s) : RB (stB K T V N cl ws i st s).2.2 := by
  have hC : cC s ≠ 600 → CI (cntB s) := fun q => (CI_cnt hB.2.2.2 q).1
  unfold stB
  split
  · exact h
  · split
    · exact h
    · split
      · exact fltB_RB h
      · rename_i h6 h8 hc
        exact doB_RB (hC hc) (cntB_RB h)
theorem rnB_RB {K T V N : Nat → Int32} {n : Nat} {cl : Nat → Nat} (hP : VP K T V N n) (hcl : ClOK K n cl) : ∀ (L : Nat) (b : Nat × Stk × Cor), BI K n b.1 b.2.1 b.2.2 → RB b.2.2 → RB (rnB K T V N n cl (wsF K T n) L b).2.2 := by
  intro L
  induction L with
  | zero => intro b _ h; exact h
  | succ L ih =>
    intro b hB h
    by_cases hon : b.1 < n ∧ cF b.2.2 = 0
    · rw [rnB_on hon]
      exact ih _ (stB_ok hP hcl (wsF_ok hP) hon.1 hB).1 (stB_RB hB h)
    · rw [rnB_off hon]
      exact h
theorem bit_z {x : Nat} (h : x < 32) : bit1 0 (nI x) = 0 := by
  rw [bit1_if h]
  simp
theorem finB_RB {K T V N : Nat → Int32} {n : Nat} (hP : VP K T V N n) : RB (finB K T V N n) := rnB_RB hP (clG_ok hP) _ _ c0_BI ⟨fun _ _ _ h => bit_z h, fun _ _ _ h => bit_z h⟩
theorem finB_CI {K T V N : Nat → Int32} {n : Nat} (hP : VP K T V N n) : CI (finB K T V N n) := by
  have key : ∀ (L : Nat) (b : Nat × Stk × Cor), BI K n b.1 b.2.1 b.2.2 → CI (rnB K T V N n (clG K n) (wsF K T n) L b).2.2 := by
    intro L
    induction L with
    | zero => intro b h; exact h.2.2.2
    | succ L ih =>
      intro b hB
      by_cases hon : b.1 < n ∧ cF b.2.2 = 0
      · rw [rnB_on hon]
        exact ih _ (stB_ok hP (clG_ok hP) (wsF_ok hP) hon.1 hB).1
      · rw [rnB_off hon]
        exact hB.2.2.2
  exact key _ _ c0_BI
theorem row0 {w : Int32} (h : ∀ b, b < 32 → bit1 w (nI b) = 0) : w = 0 := by
  apply Int32.toBitVec_inj.mp
  apply BitVec.eq_of_getLsbD_eq
  intro i hi
  have k := h i hi
  rw [bit1_if hi] at k
  cases hb : w.toBitVec.getLsbD i
  · simp
  · rw [hb] at k
    exact absurd k (by decide)
theorem rows0 {R U : Nat → Int32} (h1 : RBr R) (h2 : RBr U) (h : ∀ e x y, ¬ Str R U e x y) : ∀ j, j < 16 → R j = 0 ∧ U j = 0 := by
  intro j hj
  refine ⟨row0 fun b hb => ?_, row0 fun b hb => ?_⟩
  · by_cases e : b < 16
    · exact (bit_01 hb).resolve_right fun q => h 0 b j ⟨e, hj, Or.inl ⟨rfl, q⟩⟩
    · exact h1 j b (by omega) hb
  · by_cases e : b < 16
    · exact (bit_01 hb).resolve_right fun q => h 1 b j ⟨e, hj, Or.inr ⟨rfl, q⟩⟩
    · exact h2 j b (by omega) hb
/-! what is known of a program: its strokes, its box -/
def PgB (K T V N : Nat → Int32) (n k a b c d : Nat) : Prop := VP K T V N n ∧ 0 < n ∧ cS (finB K T V N n) (cC (finB K T V N n)) = nI k ∧ k ≤ 600 ∧ (k = 0 → (∀ e x y, ¬ Str (cR (finB K T V N n)) (cU (finB K T V N n)) e x y) ∧ a = 0 ∧ b = 0 ∧ c = 0 ∧ d = 0) ∧ (0 < k → MM (cR (finB K T V N n)) (cU (finB K T V N n)) a b c d)
theorem PgB.lim {K T V N : Nat → Int32} {n k a b c d : Nat} (h : PgB K T V N n k a b c d) : a < 16 ∧ b < 16 ∧ a ≤ c ∧ b ≤ d ∧ c ≤ 16 ∧ d ≤ 16 := by
  obtain ⟨-, -, -, -, h0, h1⟩ := h
  by_cases e : k = 0
  · obtain ⟨-, rfl, rfl, rfl, rfl⟩ := h0 e
    omega
  · obtain ⟨m1, ⟨e1, x1, y1, s1, t1⟩, ⟨e2, x2, y2, s2, t2⟩, ⟨e3, x3, y3, s3, t3⟩, ⟨e4, x4, y4, s4, t4⟩⟩ := h1 (by omega)
    have q1 := m1 _ _ _ s1
    have q2 := m1 _ _ _ s2
    have b1 := s1.1
    have b2 := s2.2.1
    have b3 := s3.1
    have b4 := s4.2.1
    have b5 : e4 ≤ 1 := by rcases s4.2.2 with q | q <;> omega
    omega
/-- a row shifted to the corner -/
def rcB (R : Nat → Int32) (a b i : Nat) : Int32 := if b + i < 16 then R (b + i) >>> (nI a &&& 31) else 0
def AlP (k k' : Nat) (R U R' U' : Nat → Int32) (a b a' b' : Nat) : Prop := k = k' ∧ ∀ i, i < 16 → rcB R a b i = rcB R' a' b' i ∧ rcB U a b i = rcB U' a' b' i
theorem rcB_0 {R : Nat → Int32} {a b i : Nat} (ha : a < 16) (h : ∀ j, j < 16 → R j = 0) : rcB R a b i = 0 := by
  unfold rcB
  split
  · rename_i hb
    rw [h _ hb]
    have key : ∀ a, a < 16 → (0 : Int32) >>> (nI a &&& 31) = 0 := by decide +kernel
    exact key a ha
  · rfl
/-- the class's two drawings -/
def DrA (dr ra ua k a b c d : Nat) (R U : Nat → Int32) (X : Mem) : Prop := mK X dr = some (2, 0) ∧ mR X 200 dr = some ra ∧ mR X 201 dr = some ua ∧ mK X ra = some (20, 16) ∧ mK X ua = some (20, 16) ∧ mI X 202 dr = nI k ∧ (0 < k → mI X 203 dr = nI a ∧ mI X 204 dr = nI b ∧ mI X 205 dr = nI c ∧ mI X 206 dr = nI d) ∧ (∀ j, j < 16 → aI X ra j = R j) ∧ ∀ j, j < 16 → aI X ua j = U j
theorem c_corner {X : Mem} {dr r a b i : Nat} {R : Nat → Int32} (h1 : mK X dr = some (2, 0)) (h2 : mI X 203 dr = nI a) (h3 : mI X 204 dr = nI b) (h4 : mK X r = some (20, 16)) (h5 : ∀ j, j < 16 → aI X r j = R j) (ha : a < 16) (hb : b < 16) (hi : i < 16) : fX2_rowInCorner X dr (some r) (nI i) = some (rcB R a b i) := by
  unfold fX2_rowInCorner rcB
  rw [if_pos h1, h2, c_onG, bi_some, if_pos (onG_nI ha), if_neg (by decide), h3, nI_add, if_neg (nI_pos (by omega)), bi_some, alen_of h4 (by decide), bi_some]
  by_cases e : b + i < 16
  · rw [if_neg (fun q => by have := (nI_leI (by omega) (by omega)).mp q; omega), if_pos (inb_of (t := 0) h4 e (by omega)), nI_clamp (by omega), h5 _ e, if_pos e]
  · rw [if_pos ((nI_leI (by omega) (by omega)).mpr (by omega)), if_neg e]
theorem c_shift24 {fu dr ra ua k a b c d dr' ra' ua' k' a' b' c9 d' : Nat} {R U R' U' : Nat → Int32} {X : Mem} (h : DrA dr ra ua k a b c d R U X) (h' : DrA dr' ra' ua' k' a' b' c9 d' R' U' X) (hk : 0 < k) (hk' : 0 < k') (ha : a < 16) (hb : b < 16) (ha' : a' < 16) (hb' : b' < 16) : ∀ (t i m : Nat), i + t = 16 → ∃ r, fX2_isShiftOf_L24 fu X (m + t + 1) dr dr' (nI i) = some r ∧ TF r (∀ j, i ≤ j → j < 16 → rcB R a b j = rcB R' a' b' j ∧ rcB U a b j = rcB U' a' b' j) := by
  obtain ⟨a1, a2, a3, a4, a5, a6, a7, a8, a9⟩ := h
  obtain ⟨b1, b2, b3, b4, b5, b6, b7, b8, b9⟩ := h'
  obtain ⟨c1, c2, -, -⟩ := a7 hk
  obtain ⟨d1, d2, -, -⟩ := b7 hk'
  intro t
  induction t with
  | zero =>
    intro i m hi
    have hi : i = 16 := hi
    subst hi
    refine ⟨1, ?_, Or.inl ⟨rfl, fun j q1 q2 => by omega⟩⟩
    show fX2_isShiftOf_L24b fu X (fX2_isShiftOf_L24 fu X m) dr dr' (nI 16) = _
    unfold fX2_isShiftOf_L24b
    rw [if_pos (by decide)]
  | succ t ih =>
    intro i m hi
    show ∃ r, fX2_isShiftOf_L24b fu X (fX2_isShiftOf_L24 fu X (m + t + 1)) dr dr' (nI i) = some r ∧ _
    unfold fX2_isShiftOf_L24b
    rw [if_neg (show ¬ (16 : Int32) ≤ nI i from fun q => by have := (nI_leI (by omega : 16 < 2 ^ 31) (by omega)).mp q; omega), if_pos a1, a2, c_corner a1 c1 c2 a4 a8 ha hb (by omega : i < 16), bi_some, if_pos b1, b2, c_corner b1 d1 d2 b4 b8 ha' hb' (by omega : i < 16), bi_some]
    by_cases e : rcB R a b i = rcB R' a' b' i
    · rw [if_pos e, a3, c_corner a1 c1 c2 a5 a9 ha hb (by omega : i < 16), bi_some, b3, c_corner b1 d1 d2 b5 b9 ha' hb' (by omega : i < 16), bi_some]
      by_cases e2 : rcB U a b i = rcB U' a' b' i
      · rw [if_pos e2, nI_1]
        obtain ⟨r, w1, w2⟩ := ih (i + 1) m (by omega)
        refine ⟨r, w1, w2.cg ⟨fun q j q1 q2 => ?_, fun q j q1 q2 => q j (by omega) q2⟩⟩
        by_cases ej : j = i
        · rw [ej]; exact ⟨e, e2⟩
        · exact q j (by omega) q2
      · rw [if_neg e2]
        exact ⟨0, rfl, Or.inr ⟨rfl, fun q => e2 (q i (Nat.le_refl i) (by omega)).2⟩⟩
    · rw [if_neg e]
      exact ⟨0, rfl, Or.inr ⟨rfl, fun q => e (q i (Nat.le_refl i) (by omega)).1⟩⟩
theorem c_shift {fu dr ra ua k a b c d dr' ra' ua' k' a' b' c9 d' : Nat} {R U R' U' : Nat → Int32} {X : Mem} (hfu : 100 ≤ fu) (h : DrA dr ra ua k a b c d R U X) (h' : DrA dr' ra' ua' k' a' b' c9 d' R' U' X) (hk : k ≤ 600) (hk' : k' ≤ 600) (ha : a < 16) (hb : b < 16) (ha' : a' < 16) (hb' : b' < 16) (z : k = 0 → ∀ j, j < 16 → R j = 0 ∧ U j = 0) (z' : k' = 0 → ∀ j, j < 16 → R' j = 0 ∧ U' j = 0) : ∃ r, fX2_isShiftOf fu X dr (some dr') = some r ∧ TF r (AlP k k' R U R' U' a b a' b') := by
  unfold fX2_isShiftOf
  rw [if_pos h.1, bi_some, if_pos h'.1, h.2.2.2.2.2.1, h'.2.2.2.2.2.1]
  by_cases e : k = k'
  · rw [if_pos (by rw [e])]
    by_cases e0 : k = 0
    · rw [if_pos (by rw [e0]; rfl)]
      refine ⟨1, rfl, Or.inl ⟨rfl, e, fun i hi => ?_⟩⟩
      have y := z e0
      have y' := z' (by omega)
      rw [rcB_0 ha (fun j hj => (y j hj).1), rcB_0 ha (fun j hj => (y j hj).2), rcB_0 ha' (fun j hj => (y' j hj).1), rcB_0 ha' (fun j hj => (y' j hj).2)]
      exact ⟨rfl, rfl⟩
    · rw [if_neg (nI_ne0 (by omega) (by omega))]
      obtain ⟨r, w1, w2⟩ := c_shift24 (fu := fu) h h' (by omega) (by omega) ha hb ha' hb' 16 0 (fu - 17) rfl
      rw [show fu - 17 + 16 + 1 = fu by omega] at w1
      exact ⟨r, w1, w2.cg ⟨fun q => ⟨e, fun i hi => q i (Nat.zero_le i) hi⟩, fun q i _ hi => q.2 i hi⟩⟩
  · rw [if_neg (fun w => e ((nI_eq (by omega) (by omega)).mp w))]
    exact ⟨0, rfl, Or.inr ⟨rfl, fun w => e w.1⟩⟩
