/-! RUNS: strokes are the bits; a step adds none or one; what is drawn lies on the ground -/
theorem cnB_cg {P Q : Nat → Prop} : ∀ n, (∀ i, i < n → (P i ↔ Q i)) → cnB P n = cnB Q n := by
  intro n
  induction n with
  | zero => intro _; rfl
  | succ n ih =>
    intro h
    have e := ih (fun i hi => h i (by omega))
    by_cases c : P n
    · rw [cnB_y c, cnB_y ((h n (by omega)).mp c), e]
    · rw [cnB_n c, cnB_n (fun q => c ((h n (by omega)).mpr q)), e]
theorem cnB_le {P : Nat → Prop} : ∀ n, cnB P n ≤ n := by
  intro n
  induction n with
  | zero => exact Nat.le_refl 0
  | succ n ih =>
    by_cases c : P n
    · rw [cnB_y c]; omega
    · rw [cnB_n c]; omega
theorem cnB_z {P : Nat → Prop} : ∀ n, (∀ i, i < n → ¬ P i) → cnB P n = 0 := by
  intro n
  induction n with
  | zero => intro _; rfl
  | succ n ih =>
    intro h
    rw [cnB_n (h n (by omega)), ih (fun i hi => h i (by omega))]
theorem cnB_up {P Q : Nat → Prop} {i0 : Nat} (h0 : ¬ P i0) : ∀ n, (∀ i, i < n → (Q i ↔ P i ∨ i = i0)) → cnB Q n = cnB P n + if i0 < n then 1 else 0 := by
  intro n
  induction n with
  | zero => intro _; rfl
  | succ n ih =>
    intro h
    have e := ih (fun i hi => h i (by omega))
    by_cases c : P n
    · rw [cnB_y c, cnB_y ((h n (by omega)).mpr (Or.inl c)), e]
      have hn : n ≠ i0 := fun q => h0 (q ▸ c)
      by_cases q : i0 < n
      · rw [if_pos q, if_pos (by omega)]
      · rw [if_neg q, if_neg (by omega)]
    · by_cases hn : n = i0
      · rw [cnB_n c, cnB_y ((h n (by omega)).mpr (Or.inr hn)), e, if_neg (by omega), if_pos (by omega)]
      · rw [cnB_n c, cnB_n (fun q => ((h n (by omega)).mp q).elim c hn), e]
        by_cases q : i0 < n
        · rw [if_pos q, if_pos (by omega)]
        · rw [if_neg q, if_neg (by omega)]
noncomputable def nS (R U : Nat → Int32) (m : Nat) : Nat := cnB (fun i => bit1 (R (i / 16)) (nI (i % 16)) = 1) m + cnB (fun i => bit1 (U (i / 16)) (nI (i % 16)) = 1) m
theorem row_up {R : Nat → Int32} {x0 y0 : Nat} (hx : x0 < 16) (hy : y0 < 16) (hb : bit1 (R y0) (nI x0) = 0) : cnB (fun i => bit1 (up1 R y0 (R y0 ||| ((1 : Int32) <<< (nI x0 &&& 31))) (i / 16)) (nI (i % 16)) = 1) 256 = cnB (fun i => bit1 (R (i / 16)) (nI (i % 16)) = 1) 256 + 1 := by
  have h0 : ¬ bit1 (R ((16 * y0 + x0) / 16)) (nI ((16 * y0 + x0) % 16)) = 1 := by
    rw [show (16 * y0 + x0) / 16 = y0 by omega, show (16 * y0 + x0) % 16 = x0 by omega, hb]
    decide
  have k := cnB_up (P := fun i => bit1 (R (i / 16)) (nI (i % 16)) = 1) (Q := fun i => bit1 (up1 R y0 (R y0 ||| ((1 : Int32) <<< (nI x0 &&& 31))) (i / 16)) (nI (i % 16)) = 1) (i0 := 16 * y0 + x0) h0 256 (fun i hi => ?_)
  · rw [k, if_pos (by omega)]
  · show bit1 (if i / 16 = y0 then R y0 ||| ((1 : Int32) <<< (nI x0 &&& 31)) else R (i / 16)) (nI (i % 16)) = 1 ↔ _
    by_cases e : i / 16 = y0
    · rw [if_pos e, bit_or (by omega) (by omega)]
      by_cases e2 : i % 16 = x0
      · rw [if_pos e2]
        exact ⟨fun _ => Or.inr (by omega), fun _ => rfl⟩
      · rw [if_neg e2]
        constructor
        · intro q
          left
          show bit1 (R (i / 16)) (nI (i % 16)) = 1
          rw [e]
          exact q
        · rintro (q | q)
          · have q : bit1 (R (i / 16)) (nI (i % 16)) = 1 := q
            rw [e] at q
            exact q
          · omega
    · rw [if_neg e]
      exact ⟨fun q => Or.inl q, fun q => q.elim id (fun z => by omega)⟩
/-- what holds of a run -/
def GI (s : Cor) : Prop := (∀ e x y, Str (cR s) (cU s) e x y → x + (1 - e) ≤ 15 ∧ y + e ≤ 15) ∧ (∃ f : Nat → Nat, f 0 = 0 ∧ (∀ j, j ≤ cC s → cS s j = nI (f j)) ∧ (∀ j, j < cC s → f j ≤ f (j + 1) ∧ f (j + 1) ≤ f j + 1) ∧ nS (cR s) (cU s) 256 = f (cC s)) ∧ (cF s = 1 → cC s = 600)
theorem GI_flt {e : Int32} {s : Cor} (h : GI s) (he : e = 1 → cC s = 600) : GI (fltB e s) := by
  obtain ⟨x, y, h9, d, f, c, nm, R, U, sa⟩ := s
  exact ⟨h.1, h.2.1, he⟩
theorem GI_trn {v : Int32} {s : Cor} (h : GI s) : GI (trnB v s) := by
  obtain ⟨x, y, h9, d, f, c, nm, R, U, sa⟩ := s
  exact h
theorem GI_pen {v : Int32} {s : Cor} (h : GI s) : GI (penB v s) := by
  obtain ⟨x, y, h9, d, f, c, nm, R, U, sa⟩ := s
  exact h
theorem GI_put {t v : Int32} {s : Cor} (h : GI s) : GI (putB t v s) := by
  obtain ⟨x, y, h9, d, f, c, nm, R, U, sa⟩ := s
  by_cases hv : -999 ≤ v ∧ v ≤ 999
  · have k : putB t v (x, y, h9, d, f, c, nm, R, U, sa) = (x, y, h9, d, f, c, up1 nm t.toNatClampNeg v, R, U, sa) := if_pos hv
    rw [k]
    exact h
  · have k : putB t v (x, y, h9, d, f, c, nm, R, U, sa) = (x, y, h9, d, 3, c, nm, R, U, sa) := if_neg hv
    rw [k]
    exact ⟨h.1, h.2.1, fun q => absurd q (show ¬ (3 : Int32) = 1 by decide)⟩
theorem f_cnt {c : Nat} {sa : Nat → Int32} {f : Nat → Nat} {v : Nat} {w : Int32} (hw : w = nI v) (hv : f c ≤ v ∧ v ≤ f c + 1) (h0 : f 0 = 0) (h1 : ∀ j, j ≤ c → sa j = nI (f j)) (h2 : ∀ j, j < c → f j ≤ f (j + 1) ∧ f (j + 1) ≤ f j + 1) : ∃ g : Nat → Nat, g 0 = 0 ∧ (∀ j, j ≤ c + 1 → up1 sa (c + 1) w j = nI (g j)) ∧ (∀ j, j < c + 1 → g j ≤ g (j + 1) ∧ g (j + 1) ≤ g j + 1) ∧ g (c + 1) = v := by
  refine ⟨fun j => if j ≤ c then f j else v, by show (if 0 ≤ c then f 0 else v) = 0; rw [if_pos (Nat.zero_le c)]; exact h0, fun j hj => ?_, fun j hj => ?_, if_neg (by omega)⟩
  · show (if j = c + 1 then w else sa j) = nI (if j ≤ c then f j else v)
    by_cases e : j = c + 1
    · rw [if_pos e, if_neg (by omega), hw]
    · rw [if_neg e, if_pos (by omega), h1 j (by omega)]
  · show (if j ≤ c then f j else v) ≤ (if j + 1 ≤ c then f (j + 1) else v) ∧ (if j + 1 ≤ c then f (j + 1) else v) ≤ (if j ≤ c then f j else v) + 1
    by_cases e : j + 1 ≤ c
    · rw [if_pos e, if_pos (by omega)]
      exact h2 j (by omega)
    · rw [if_neg e, if_pos (by omega), show j = c by omega]
      exact hv
theorem GI_cnt {s : Cor} (h : GI s) (hc : cC s ≠ 600) : GI (cntB s) := by
  obtain ⟨x, y, h9, d, f, c, nm, R, U, sa⟩ := s
  obtain ⟨h1, ⟨g, g0, g1, g2, g3⟩, h3⟩ := h
  have hc : c ≠ 600 := hc
  obtain ⟨g', k0, k1, k2, k3⟩ := f_cnt (c := c) (sa := sa) (f := g) (v := g c) (w := sa c) (g1 c (Nat.le_refl _)) ⟨Nat.le_refl _, by omega⟩ g0 g1 g2
  exact ⟨h1, ⟨g', k0, k1, k2, by show nS R U 256 = g' (c + 1); rw [k3]; exact g3⟩, fun q => absurd (h3 q) hc⟩
theorem ah_c {h : Int32} (h3 : h = 0 ∨ h = 1 ∨ h = 2 ∨ h = 3) : (ahX h = 0 ∧ (ahY h = 1 ∨ ahY h = -1)) ∨ (ahY h = 0 ∧ (ahX h = 1 ∨ ahX h = -1)) := by
  rcases h3 with e | e | e | e <;> subst e
  · exact Or.inl ⟨by decide, Or.inl (by decide)⟩
  · exact Or.inr ⟨by decide, Or.inl (by decide)⟩
  · exact Or.inl ⟨by decide, Or.inr (by decide)⟩
  · exact Or.inr ⟨by decide, Or.inr (by decide)⟩
theorem nI_up1 {a b : Nat} {t : Int32} (ha : a < 16) (hb : b < 16) (ht : t = 1 ∨ t = -1) (e : nI a + t = nI b) : b = a + 1 ∨ a = b + 1 := by
  rcases ht with rfl | rfl
  · left
    rw [nI_1] at e
    exact ((nI_eq (by omega) (by omega)).mp e).symm
  · right
    have k : nI a = nI b + 1 := by
      rw [← e, Int32.add_assoc, show (-1 : Int32) + 1 = 0 by decide, Int32.add_zero]
    rw [nI_1] at k
    exact (nI_eq (by omega) (by omega)).mp k
theorem gStr_R {R U : Nat → Int32} {x0 y0 e x y : Nat} (hx : x0 < 16) (h : Str (up1 R y0 (R y0 ||| ((1 : Int32) <<< (nI x0 &&& 31)))) U e x y) : Str R U e x y ∨ (e = 0 ∧ x = x0 ∧ y = y0) := by
  obtain ⟨h1, h2, h3⟩ := h
  rcases h3 with ⟨h3, h4⟩ | h3
  · have h4 : bit1 (if y = y0 then R y0 ||| ((1 : Int32) <<< (nI x0 &&& 31)) else R y) (nI x) = 1 := h4
    by_cases e1 : y = y0
    · rw [if_pos e1, bit_or (by omega) (by omega)] at h4
      by_cases e2 : x = x0
      · exact Or.inr ⟨h3, e2, e1⟩
      · rw [if_neg e2] at h4
        exact Or.inl ⟨h1, h2, Or.inl ⟨h3, by rw [e1]; exact h4⟩⟩
    · rw [if_neg e1] at h4
      exact Or.inl ⟨h1, h2, Or.inl ⟨h3, h4⟩⟩
  · exact Or.inl ⟨h1, h2, Or.inr h3⟩
theorem gStr_U {R U : Nat → Int32} {x0 y0 e x y : Nat} (hx : x0 < 16) (h : Str R (up1 U y0 (U y0 ||| ((1 : Int32) <<< (nI x0 &&& 31)))) e x y) : Str R U e x y ∨ (e = 1 ∧ x = x0 ∧ y = y0) := by
  obtain ⟨h1, h2, h3⟩ := h
  rcases h3 with h3 | ⟨h3, h4⟩
  · exact Or.inl ⟨h1, h2, Or.inl h3⟩
  · have h4 : bit1 (if y = y0 then U y0 ||| ((1 : Int32) <<< (nI x0 &&& 31)) else U y) (nI x) = 1 := h4
    by_cases e1 : y = y0
    · rw [if_pos e1, bit_or (by omega) (by omega)] at h4
      by_cases e2 : x = x0
      · exact Or.inr ⟨h3, e2, e1⟩
      · rw [if_neg e2] at h4
        exact Or.inl ⟨h1, h2, Or.inr ⟨h3, by rw [e1]; exact h4⟩⟩
    · rw [if_neg e1] at h4
      exact Or.inl ⟨h1, h2, Or.inr ⟨h3, h4⟩⟩
theorem minB_nn {a b : Nat} (ha : a < 16) (hb : b < 16) : minB (nI a) (nI b) = nI (if b < a then b else a) := by
  unfold minB
  by_cases h : b < a
  · rw [if_pos ((nI_ltI (by omega) (by omega)).mpr h), if_pos h]
  · rw [if_neg (fun q => h ((nI_ltI (by omega) (by omega)).mp q)), if_neg h]
theorem GI_go {s : Cor} (hC : CI s) (h : GI s) : GI (goB s) := by
  obtain ⟨x, y, h9, d, f, c, nm, R, U, sa⟩ := s
  have hcnt : c ≠ 600 → GI (cntB (x, y, h9, d, f, c, nm, R, U, sa)) := fun q => GI_cnt h q
  obtain ⟨h1, ⟨g, g0, g1, g2, g3⟩, h3⟩ := h
  have g3 : nS R U 256 = g c := g3
  have h1 : ∀ e x y, Str R U e x y → x + (1 - e) ≤ 15 ∧ y + e ≤ 15 := h1
  show GI (if c = 600 then (x, y, h9, d, 1, c, nm, R, U, sa) else if onG (x + ahX h9) ∧ onG (y + ahY h9) then mvB x y h9 d f (c + 1) nm R U (up1 sa (c + 1) (sa c)) (x + ahX h9) (y + ahY h9) else (x, y, h9, d, 2, c, nm, R, U, sa))
  by_cases ec : c = 600
  · rw [if_pos ec]
    exact ⟨h1, ⟨g, g0, g1, g2, g3⟩, fun _ => ec⟩
  rw [if_neg ec]
  by_cases eg : onG (x + ahX h9) ∧ onG (y + ahY h9)
  · rw [if_pos eg]
    have hk := hcnt ec
    have f1 : f ≠ 1 := fun q => ec (h3 q)
    have gs : nS R U 256 = g c := g3
    have gc : sa c = nI (g c) := g1 c (Nat.le_refl _)
    have c1 : ∀ j, j ≤ c → sa j = nI (g j) := g1
    have c2 : ∀ j, j < c → g j ≤ g (j + 1) ∧ g (j + 1) ≤ g j + 1 := g2
    obtain ⟨a, ha, rfl⟩ := onG_of hC.1
    obtain ⟨b, hb, rfl⟩ := onG_of hC.2.1
    obtain ⟨a', ha', ea⟩ := onG_of eg.1
    obtain ⟨b', hb', eb⟩ := onG_of eg.2
    rw [ea, eb]
    -- a stroke adds one
    have hup : up1 (up1 sa (c + 1) (sa c)) (c + 1) (up1 sa (c + 1) (sa c) (c + 1) + 1) = up1 sa (c + 1) (nI (g c + 1)) := by
      funext j
      show (if j = c + 1 then (if c + 1 = c + 1 then sa c else sa (c + 1)) + 1 else if j = c + 1 then sa c else sa j) = if j = c + 1 then nI (g c + 1) else sa j
      by_cases e : j = c + 1
      · rw [if_pos e, if_pos rfl, if_pos e, gc, nI_1]
      · rw [if_neg e, if_neg e, if_neg e]
    obtain ⟨g', k0, k1, k2, k3⟩ := f_cnt (c := c) (sa := sa) (f := g) (v := g c + 1) (w := nI (g c + 1)) rfl ⟨by omega, Nat.le_refl _⟩ g0 c1 c2
    unfold mvB
    by_cases ed : d = 0
    · rw [if_pos ed]
      exact ⟨hk.1, hk.2.1, fun q => absurd q f1⟩
    rw [if_neg ed]
    have adj : (a' = a ∧ (b' = b + 1 ∨ b = b' + 1)) ∨ (b' = b ∧ (a' = a + 1 ∨ a = a' + 1)) := by
      rcases ah_c hC.2.2.1 with ⟨e1, e2⟩ | ⟨e1, e2⟩
      · rw [e1, Int32.add_zero] at ea
        exact Or.inl ⟨((nI_eq (by omega) (by omega)).mp ea).symm, nI_up1 hb hb' e2 eb⟩
      · rw [e1, Int32.add_zero] at eb
        exact Or.inr ⟨((nI_eq (by omega) (by omega)).mp eb).symm, nI_up1 ha ha' e2 ea⟩
    rw [minB_nn ha ha', minB_nn hb hb', hup]
    by_cases en : nI a' = nI a
    · rw [if_pos en]
      have ena : a' = a := (nI_eq (by omega) (by omega)).mp en
      have hy : (if b' < b then b' else b) < 15 := by
        rcases adj with ⟨-, q⟩ | ⟨-, q⟩
        · split <;> omega
        · omega
      have hx : (if a' < a then a' else a) < 16 := by split <;> omega
      generalize (if b' < b then b' else b) = y0 at hy
      generalize (if a' < a then a' else a) = x0 at hx
      rw [nI_clamp (by omega)]
      by_cases eb1 : bit1 (U y0) (nI x0) = 0
      · rw [if_pos eb1]
        refine ⟨fun e x y hs => ?_, ⟨g', k0, k1, k2, ?_⟩, fun q => absurd q f1⟩
        · rcases gStr_U hx hs with q | ⟨q1, q2, q3⟩
          · exact h1 e x y q
          · omega
        · show nS R (up1 U y0 (U y0 ||| ((1 : Int32) <<< (nI x0 &&& 31)))) 256 = g' (c + 1)
          rw [k3, ← gs]
          unfold nS
          rw [row_up hx (by omega) eb1]
          omega
      · rw [if_neg eb1]
        exact ⟨hk.1, hk.2.1, fun q => absurd q f1⟩
    · rw [if_neg en]
      have ena : a' ≠ a := fun q => en (by rw [q])
      have hx : (if a' < a then a' else a) < 15 := by
        rcases adj with ⟨q, -⟩ | ⟨-, q⟩
        · exact absurd q ena
        · split <;> omega
      have hy : (if b' < b then b' else b) < 16 := by split <;> omega
      generalize (if b' < b then b' else b) = y0 at hy
      generalize (if a' < a then a' else a) = x0 at hx
      rw [nI_clamp (by omega)]
      by_cases eb1 : bit1 (R y0) (nI x0) = 0
      · rw [if_pos eb1]
        refine ⟨fun e x y hs => ?_, ⟨g', k0, k1, k2, ?_⟩, fun q => absurd q f1⟩
        · rcases gStr_R (by omega) hs with q | ⟨q1, q2, q3⟩
          · exact h1 e x y q
          · omega
        · show nS (up1 R y0 (R y0 ||| ((1 : Int32) <<< (nI x0 &&& 31)))) U 256 = g' (c + 1)
          rw [k3, ← gs]
          unfold nS
          rw [row_up (by omega) hy eb1]
          omega
      · rw [if_neg eb1]
        exact ⟨hk.1, hk.2.1, fun q => absurd q f1⟩
  · rw [if_neg eg]
    exact ⟨h1, ⟨g, g0, g1, g2, g3⟩, fun q => absurd q (show ¬ (2 : Int32) = 1 by decide)⟩
theorem GI_fw : ∀ (k : Nat) {s : Cor}, CI s → GI s → GI (fwB k s) := by
  intro k
  induction k with
  | zero => intro s _ h; exact h
  | succ k ih =>
    intro s hC h
    show GI (if cF s = 0 then fwB k (goB s) else s)
    split
    · exact ih (goB_ok hC).1 (GI_go hC h)
    · exact h
theorem GI_do {K T : Nat → Int32} {i : Nat} {cl : Nat → Nat} {ws : Int32 → Option Nat} {st : Stk} {s1 : Cor} {v : Int32} (hc' : CI s1) (h' : GI s1) : GI (doB K T cl ws i st s1 v).2.2 := by
  unfold doB
  by_cases e0 : K i = 0
  · rw [if_pos e0]
    show GI (if v < 0 then fltB 3 s1 else fwB v.toNatClampNeg s1)
    by_cases ev : v < 0
    · rw [if_pos ev]; exact GI_flt h' (fun q => absurd q (by decide))
    · rw [if_neg ev]; exact GI_fw _ hc' h'
  rw [if_neg e0]
  by_cases e1 : K i = 1
  · rw [if_pos e1]; exact GI_trn h'
  rw [if_neg e1]
  by_cases e2 : K i = 2
  · rw [if_pos e2]; exact GI_pen h'
  rw [if_neg e2]
  by_cases e3 : K i = 3
  · rw [if_pos e3]; exact GI_put h'
  rw [if_neg e3]
  by_cases e4 : K i = 4
  · rw [if_pos e4]; exact GI_put h'
  rw [if_neg e4]
  by_cases e5 : K i = 5
  · rw [if_pos e5]
    by_cases e6 : v ≤ 0 ∨ cl i = i + 1
    · rw [if_pos e6]; exact h'
    · rw [if_neg e6]; exact h'
  rw [if_neg e5]
  cases ws (T i) with
  | none => exact GI_flt h' (fun q => absurd q (by decide))
  | some w =>
    show GI (if calls st = 8 then (i + 1, st, fltB 4 s1) else (w + 1, (i, -1) :: st, s1) : Nat × Stk × Cor).2.2
    by_cases e8 : calls st = 8
    · rw [if_pos e8]; exact GI_flt h' (fun q => absurd q (by decide))
    · rw [if_neg e8]; exact h'
theorem GI_st {K T V N : Nat → Int32} {n i : Nat} {cl : Nat → Nat} {ws : Int32 → Option Nat} {st : Stk} {s : Cor} (hB : BI K n i st s) (h : GI s) : GI (stB K T V N cl ws i st s).2.2 := by
  have hC : cC s ≠ 600 → CI (cntB s) := fun q => (CI_cnt hB.2.2.2 q).1
  unfold stB
  split
  · exact h
  · split
    · exact h
    · split
      · rename_i hc
        exact GI_flt h (fun _ => hc)
      · rename_i h6 h8 hc
        exact GI_do (hC hc) (GI_cnt h hc)
theorem GI_rn {K T V N : Nat → Int32} {n : Nat} {cl : Nat → Nat} (hP : VP K T V N n) (hcl : ClOK K n cl) : ∀ (L : Nat) (b : Nat × Stk × Cor), BI K n b.1 b.2.1 b.2.2 → GI b.2.2 → GI (rnB K T V N n cl (wsF K T n) L b).2.2 := by
  intro L
  induction L with
  | zero => intro b _ h; exact h
  | succ L ih =>
    intro b hB h
    by_cases hon : b.1 < n ∧ cF b.2.2 = 0
    · rw [rnB_on hon]
      exact ih _ (stB_ok hP hcl (wsF_ok hP) hon.1 hB).1 (GI_st hB h)
    · rw [rnB_off hon]
      exact h
theorem GI_c0 : GI c0B := by
  have z : ∀ e x y, ¬ Str (cR c0B) (cU c0B) e x y := by
    rintro e x y ⟨h1, h2, h3⟩
    rcases h3 with ⟨-, h3⟩ | ⟨-, h3⟩
    · have h3 : bit1 0 (nI x) = 1 := h3
      rw [bit_z (by omega)] at h3
      exact absurd h3 (by decide)
    · have h3 : bit1 0 (nI x) = 1 := h3
      rw [bit_z (by omega)] at h3
      exact absurd h3 (by decide)
  refine ⟨fun e x y h => absurd h (z e x y), ⟨fun _ => 0, rfl, fun j _ => rfl, fun j hj => absurd hj (Nat.not_lt_zero j), ?_⟩, fun q => absurd q (by decide)⟩
  have a1 : cnB (fun i => bit1 (cR c0B (i / 16)) (nI (i % 16)) = 1) 256 = 0 := cnB_z _ (fun i hi q => z 0 (i % 16) (i / 16) ⟨by omega, by omega, Or.inl ⟨rfl, q⟩⟩)
  have a2 : cnB (fun i => bit1 (cU c0B (i / 16)) (nI (i % 16)) = 1) 256 = 0 := cnB_z _ (fun i hi q => z 1 (i % 16) (i / 16) ⟨by omega, by omega, Or.inr ⟨rfl, q⟩⟩)
  unfold nS
  rw [a1, a2]
theorem GI_fin {K T V N : Nat → Int32} {n : Nat} (hP : VP K T V N n) : GI (finB K T V N n) := GI_rn hP (clG_ok hP) _ _ c0_BI GI_c0
/-- what a written program's strokes and steps are -/
theorem GB.steps {g : Pg} (h : GB g) : cC (pgF g) ≤ 600 ∧ (cF (pgF g) = 1 → cC (pgF g) = 600) ∧ (∀ e x y, Str (cR (pgF g)) (cU (pgF g)) e x y → x + (1 - e) ≤ 15 ∧ y + e ≤ 15) ∧ nS (cR (pgF g)) (cU (pgF g)) 256 = pgk g ∧ pgk g ≤ cC (pgF g) ∧ ∃ f : Nat → Nat, f 0 = 0 ∧ (∀ j, j ≤ cC (pgF g) → cS (pgF g) j = nI (f j)) ∧ (∀ j, j < cC (pgF g) → f j ≤ f (j + 1) ∧ f (j + 1) ≤ f j + 1) ∧ f (cC (pgF g)) = pgk g := by
  obtain ⟨g1, ⟨f, f0, f1, f2, f3⟩, g3⟩ := GI_fin h.1
  have hc := CI_c (finB_CI h.1)
  have hk := h.2.2.2.1
  have hS : cS (finB (pgK g) (pgT g) (pgV g) (pgN g) (pgn g)) (cC (finB (pgK g) (pgT g) (pgV g) (pgN g) (pgn g))) = nI (pgk g) := h.2.2.1
  have fle : ∀ j, j ≤ cC (finB (pgK g) (pgT g) (pgV g) (pgN g) (pgn g)) → f j ≤ j := by
    intro j
    induction j with
    | zero => intro _; omega
    | succ j ih =>
      intro hj
      have := ih (by omega)
      have := (f2 j (by omega)).2
      omega
  have l1 := fle _ (Nat.le_refl _)
  have ek : f (cC (finB (pgK g) (pgT g) (pgV g) (pgN g) (pgn g))) = pgk g := by
    have q := f1 _ (Nat.le_refl _)
    rw [hS] at q
    exact ((nI_eq (by omega) (by omega)).mp q).symm
  exact ⟨hc, g3, g1, f3.trans ek, by rw [← ek]; exact l1, f, f0, f1, f2, ek⟩
