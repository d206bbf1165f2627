/-! THE WALL, pure: bits of a row of cells -/
def maskB (w : Nat) : Int64 := ((1 : Int64) <<< ((nI w).toInt64 &&& 63)) - 1
def shB (o : Int64) (x : Nat) : Int64 := o <<< ((nI x).toInt64 &&& 63)
theorem sm64 : ∀ x, x < 64 → (((nI x).toInt64 &&& 63).toBitVec.smod 64).toNat = x := by decide +kernel
theorem mask_bit : ∀ w, w < 18 → ∀ j, j < 64 → (maskB w).toBitVec.getLsbD j = decide (j < w) := by decide +kernel
theorem shl64 {o : Int64} {x j : Nat} (hx : x < 64) (hj : j < 64) : (shB o x).toBitVec.getLsbD j = (decide (x ≤ j) && o.toBitVec.getLsbD (j - x)) := by
  unfold shB
  rw [Int64.toBitVec_shiftLeft, BitVec.shiftLeft_eq', sm64 x hx, BitVec.getLsbD_shiftLeft]
  by_cases e : j < x
  · rw [decide_eq_false (show ¬ x ≤ j by omega)]
    simp [hj, e]
  · rw [decide_eq_true (show x ≤ j by omega)]
    simp [hj, e]
theorem shr64 {o : Int64} {x j : Nat} (hx : x < 64) (hj : x + j < 64) : (o >>> ((nI x).toInt64 &&& 63)).toBitVec.getLsbD j = o.toBitVec.getLsbD (x + j) := by
  rw [Int64.toBitVec_shiftRight]
  unfold BitVec.sshiftRight'
  rw [sm64 x hx, BitVec.getLsbD_sshiftRight]
  simp [hj]
  omega
theorem ext64 {a b : Int64} (h : ∀ j, j < 64 → a.toBitVec.getLsbD j = b.toBitVec.getLsbD j) : a = b := Int64.toBitVec_inj.mp (BitVec.eq_of_getLsbD_eq h)
theorem z64 {j : Nat} : (0 : Int64).toBitVec.getLsbD j = false := by
  have e : (0 : Int64).toBitVec = 0#64 := rfl
  rw [e]
  simp
/-- the cells x .. x + w - 1 of a row are free -/
def FrRow (o : Int64) (x w : Nat) : Prop := ∀ j, x ≤ j → j < x + w → o.toBitVec.getLsbD j = false
theorem fr_and {o : Int64} {x w : Nat} (hw : w < 18) (hx : x + w < 64) : o &&& shB (maskB w) x = 0 ↔ FrRow o x w := by
  have bit : ∀ j, j < 64 → (o &&& shB (maskB w) x).toBitVec.getLsbD j = (o.toBitVec.getLsbD j && (decide (x ≤ j) && decide (j - x < w))) := by
    intro j hj
    rw [Int64.toBitVec_and, BitVec.getLsbD_and, shl64 (by omega) hj, mask_bit w hw (j - x) (by omega)]
  constructor
  · intro h j h1 h2
    have k := bit j (by omega)
    rw [h, z64, decide_eq_true h1, decide_eq_true (show j - x < w by omega)] at k
    simpa using k.symm
  · intro h
    refine ext64 fun j hj => ?_
    rw [bit j hj, z64]
    by_cases e : x ≤ j ∧ j < x + w
    · rw [h j e.1 e.2]
      rfl
    · by_cases e1 : x ≤ j
      · rw [decide_eq_false (show ¬ j - x < w by omega)]
        simp
      · rw [decide_eq_false e1]
        simp
theorem fr_shr {o : Int64} {x w : Nat} (hw : w < 18) (hx : x + w < 46) : (o >>> ((nI x).toInt64 &&& 63)) &&& maskB w = 0 ↔ FrRow o x w := by
  constructor
  · intro h j h1 h2
    have k : ((o >>> ((nI x).toInt64 &&& 63)) &&& maskB w).toBitVec.getLsbD (j - x) = (0 : Int64).toBitVec.getLsbD (j - x) := by rw [h]
    rw [Int64.toBitVec_and, BitVec.getLsbD_and, shr64 (by omega) (by omega), mask_bit w hw (j - x) (by omega), z64, decide_eq_true (show j - x < w by omega), show x + (j - x) = j by omega] at k
    simpa using k
  · intro h
    refine ext64 fun j hj => ?_
    rw [Int64.toBitVec_and, BitVec.getLsbD_and, mask_bit w hw j hj, z64]
    by_cases e : j < w
    · rw [shr64 (by omega) (by omega), h (x + j) (by omega) (by omega)]
      rfl
    · rw [decide_eq_false e]
      simp
theorem fr_or {o p : Int64} {x w : Nat} : FrRow (o ||| p) x w ↔ FrRow o x w ∧ FrRow p x w := by
  constructor
  · intro h
    refine ⟨fun j h1 h2 => ?_, fun j h1 h2 => ?_⟩
    · have k := h j h1 h2
      rw [Int64.toBitVec_or, BitVec.getLsbD_or] at k
      cases hb : o.toBitVec.getLsbD j
      · rfl
      · rw [hb] at k; exact absurd k (by simp)
    · have k := h j h1 h2
      rw [Int64.toBitVec_or, BitVec.getLsbD_or] at k
      cases hb : p.toBitVec.getLsbD j
      · rfl
      · rw [hb] at k; exact absurd k (by simp)
  · rintro ⟨h1, h2⟩ j h3 h4
    rw [Int64.toBitVec_or, BitVec.getLsbD_or, h1 j h3 h4, h2 j h3 h4]
    rfl
theorem fr_0 {x w : Nat} : FrRow 0 x w := fun _ _ _ => z64
/-! the first place that fits; the layout -/
def FF (P : Nat → Prop) (n : Nat) : Option Nat → Prop
  | none => ∀ k, k < n → ¬ P k
  | some k => k < n ∧ P k ∧ ∀ j, j < k → ¬ P j
theorem FF_un {P : Nat → Prop} {n : Nat} {a b : Option Nat} (h : FF P n a) (k : FF P n b) : a = b := by
  cases a with
  | none =>
    cases b with
    | none => rfl
    | some b => exact absurd k.2.1 (h b k.1)
  | some a =>
    cases b with
    | none => exact absurd h.2.1 (k a h.1)
    | some b =>
      rcases Nat.lt_trichotomy a b with q | q | q
      · exact absurd h.2.1 (k.2.2 a q)
      · rw [q]
      · exact absurd k.2.1 (h.2.2 b q)
noncomputable def ffn (P : Nat → Prop) : Nat → Option Nat
  | 0 => none
  | n + 1 => match ffn P n with
    | some k => some k
    | none => @ite _ (P n) (Classical.propDecidable _) (some n) none
theorem ffn_ok {P : Nat → Prop} : ∀ n, FF P n (ffn P n) := by
  intro n
  induction n with
  | zero => exact fun k hk => absurd hk (Nat.not_lt_zero k)
  | succ n ih =>
    cases e : ffn P n with
    | some k =>
      rw [e] at ih
      have e2 : ffn P (n + 1) = some k := by
        show (match ffn P n with | some k => some k | none => @ite _ (P n) (Classical.propDecidable _) (some n) none) = _
        rw [e]
      rw [e2]
      exact ⟨Nat.lt_succ_of_lt ih.1, ih.2⟩
    | none =>
      rw [e] at ih
      have e2 : ffn P (n + 1) = @ite _ (P n) (Classical.propDecidable _) (some n) none := by
        show (match ffn P n with | some k => some k | none => @ite _ (P n) (Classical.propDecidable _) (some n) none) = _
        rw [e]
      rw [e2]
      by_cases hp : P n
      · rw [if_pos hp]
        exact ⟨Nat.lt_succ_self n, hp, fun j hj => ih j hj⟩
      · rw [if_neg hp]
        intro k hk
        by_cases ek : k = n
        · rw [ek]; exact hp
        · exact ih k (by omega)
/-- a rectangle of w by h cells at (x, y) is free -/
def FitP (rows : Nat → Int64) (W H w h x y : Nat) : Prop := x + w ≤ W ∧ y + h ≤ H ∧ ∀ r, y ≤ r → r < y + h → FrRow (rows r) x w
def FitK (rows : Nat → Int64) (W H w h k : Nat) : Prop := FitP rows W H w h (k % W) (k / W)
def putK (rows : Nat → Int64) (W w h k : Nat) : Nat → Int64 := fun r => if k / W ≤ r ∧ r < k / W + h then rows r ||| shB (maskB w) (k % W) else rows r
noncomputable def hangF (W H w h : Nat) (rows : Nat → Int64) : Option Nat := ffn (FitK rows W H w h) (W * H)
def hangR (W w h : Nat) (rows : Nat → Int64) (o : Option Nat) : Nat → Int64 := match o with
  | none => rows
  | some k => putK rows W w h k
noncomputable def layB (W H : Nat) (wd hg : Nat → Nat) (ok : Nat → Prop) : Nat → (Nat → Int64) × (Nat → Option Nat)
  | 0 => (fun _ => 0, fun _ => none)
  | i + 1 => @ite _ (ok i) (Classical.propDecidable _) (hangR W (wd i) (hg i) (layB W H wd hg ok i).1 (hangF W H (wd i) (hg i) (layB W H wd hg ok i).1), fun j => if j = i then hangF W H (wd i) (hg i) (layB W H wd hg ok i).1 else (layB W H wd hg ok i).2 j) (layB W H wd hg ok i)
theorem layB_y {W H i : Nat} {wd hg : Nat → Nat} {ok : Nat → Prop} (h : ok i) : layB W H wd hg ok (i + 1) = (hangR W (wd i) (hg i) (layB W H wd hg ok i).1 (hangF W H (wd i) (hg i) (layB W H wd hg ok i).1), fun j => if j = i then hangF W H (wd i) (hg i) (layB W H wd hg ok i).1 else (layB W H wd hg ok i).2 j) := if_pos h
theorem layB_n {W H i : Nat} {wd hg : Nat → Nat} {ok : Nat → Prop} (h : ¬ ok i) : layB W H wd hg ok (i + 1) = layB W H wd hg ok i := if_neg h
theorem layB_none {W H : Nat} {wd hg : Nat → Nat} {ok : Nat → Prop} : ∀ i j, i ≤ j → (layB W H wd hg ok i).2 j = none := by
  intro i
  induction i with
  | zero => intro j _; rfl
  | succ i ih =>
    intro j hj
    by_cases h : ok i
    · rw [layB_y h]
      show (if j = i then _ else (layB W H wd hg ok i).2 j) = none
      rw [if_neg (by omega), ih j (by omega)]
    · rw [layB_n h]
      exact ih j (by omega)
theorem layB_old {W H : Nat} {wd hg : Nat → Nat} {ok : Nat → Prop} {i j : Nat} (hj : j < i) : (layB W H wd hg ok (i + 1)).2 j = (layB W H wd hg ok i).2 j := by
  by_cases h : ok i
  · rw [layB_y h]
    exact if_neg (by omega)
  · rw [layB_n h]
theorem layB_cg {W H : Nat} {wd hg wd' hg' : Nat → Nat} {ok ok' : Nat → Prop} : ∀ n, (∀ i, i < n → wd i = wd' i ∧ hg i = hg' i ∧ (ok i ↔ ok' i)) → layB W H wd hg ok n = layB W H wd' hg' ok' n := by
  intro n
  induction n with
  | zero => intro _; rfl
  | succ n ih =>
    intro h
    have ih := ih (fun i hi => h i (by omega))
    obtain ⟨h1, h2, h3⟩ := h n (by omega)
    by_cases e : ok n
    · rw [layB_y e, layB_y (h3.mp e), ih, h1, h2]
    · rw [layB_n e, layB_n (fun q => e (h3.mpr q)), ih]
/-- where a work hangs, its cells are taken; two of them have no cell in common -/
theorem put_bit {rows : Nat → Int64} {W w h k r j : Nat} (hw : w < 18) (hx : k % W + w < 46) (h1 : k / W ≤ r) (h2 : r < k / W + h) (h3 : k % W ≤ j) (h4 : j < k % W + w) : (putK rows W w h k r).toBitVec.getLsbD j = true := by
  unfold putK
  rw [if_pos ⟨h1, h2⟩, Int64.toBitVec_or, BitVec.getLsbD_or, shl64 (by omega) (by omega), mask_bit w hw (j - k % W) (by omega), decide_eq_true h3, decide_eq_true (show j - k % W < w by omega)]
  simp
theorem put_old {rows : Nat → Int64} {W w h k r j : Nat} (h9 : (rows r).toBitVec.getLsbD j = true) : (putK rows W w h k r).toBitVec.getLsbD j = true := by
  unfold putK
  split
  · rw [Int64.toBitVec_or, BitVec.getLsbD_or, h9]
    rfl
  · exact h9
def InR (W w h k x y : Nat) : Prop := k % W ≤ x ∧ x < k % W + w ∧ k / W ≤ y ∧ y < k / W + h
theorem lay_dis {W H : Nat} {wd hg : Nat → Nat} {ok : Nat → Prop} (hW : W ≤ 40) (hwd : ∀ i, wd i < 18) : ∀ n, (∀ i k, (layB W H wd hg ok n).2 i = some k → ∀ x y, InR W (wd i) (hg i) k x y → ((layB W H wd hg ok n).1 y).toBitVec.getLsbD x = true) ∧ (∀ i k, (layB W H wd hg ok n).2 i = some k → FitP (fun _ => 0) W H (wd i) (hg i) (k % W) (k / W)) ∧ ∀ i i' k k', i < i' → (layB W H wd hg ok n).2 i = some k → (layB W H wd hg ok n).2 i' = some k' → ∀ x y, InR W (wd i) (hg i) k x y → ¬ InR W (wd i') (hg i') k' x y := by
  intro n
  induction n with
  | zero => exact ⟨fun i k h => (nomatch h), fun i k h => (nomatch h), fun i i' k k' _ h => (nomatch h)⟩
  | succ n ih =>
    obtain ⟨ih1, ih2, ih3⟩ := ih
    by_cases h : ok n
    · rw [layB_y h]
      have hF := ffn_ok (P := FitK (layB W H wd hg ok n).1 W H (wd n) (hg n)) (W * H)
      have eF : ffn (FitK (layB W H wd hg ok n).1 W H (wd n) (hg n)) (W * H) = hangF W H (wd n) (hg n) (layB W H wd hg ok n).1 := rfl
      rw [eF] at hF
      cases e : hangF W H (wd n) (hg n) (layB W H wd hg ok n).1 with
      | none =>
        have same : ∀ i k, (if i = n then none else (layB W H wd hg ok n).2 i) = some k → (layB W H wd hg ok n).2 i = some k := by
          intro i k q
          by_cases ei : i = n
          · rw [if_pos ei] at q; exact nomatch q
          · rw [if_neg ei] at q; exact q
        exact ⟨fun i k q => ih1 i k (same i k q), fun i k q => ih2 i k (same i k q), fun i i' k k' hl q q' => ih3 i i' k k' hl (same i k q) (same i' k' q')⟩
      | some kn =>
        rw [e] at hF
        obtain ⟨f1, ⟨f2, f3, f4⟩, f5⟩ := hF
        have hw := hwd n
        have at9 : ∀ i k, (if i = n then some kn else (layB W H wd hg ok n).2 i) = some k → (i = n ∧ k = kn) ∨ (i < n ∧ (layB W H wd hg ok n).2 i = some k) := by
          intro i k q
          by_cases ei : i = n
          · rw [if_pos ei] at q
            exact Or.inl ⟨ei, (Option.some.inj q).symm⟩
          · rw [if_neg ei] at q
            refine Or.inr ⟨Classical.byContradiction fun z => ?_, q⟩
            rw [layB_none n i (by omega)] at q
            exact nomatch q
        refine ⟨fun i k q x y hr => ?_, fun i k q => ?_, fun i i' k k' hl q q' x y hr hr' => ?_⟩
        · rcases at9 i k q with ⟨rfl, rfl⟩ | ⟨-, q⟩
          · exact put_bit hw (by omega) hr.2.2.1 hr.2.2.2 hr.1 hr.2.1
          · exact put_old (ih1 i k q x y hr)
        · rcases at9 i k q with ⟨rfl, rfl⟩ | ⟨-, q⟩
          · exact ⟨f2, f3, fun _ _ _ => fr_0⟩
          · exact ih2 i k q
        · rcases at9 i' k' q' with ⟨rfl, rfl⟩ | ⟨hi', q'⟩
          · rcases at9 i k q with ⟨rfl, -⟩ | ⟨-, q⟩
            · exact Nat.lt_irrefl _ hl
            · have b1 := ih1 i k q x y hr
              have b2 := f4 y hr'.2.2.1 hr'.2.2.2 x hr'.1 hr'.2.1
              rw [b1] at b2
              exact nomatch b2
          · rcases at9 i k q with ⟨rfl, -⟩ | ⟨-, q⟩
            · omega
            · exact ih3 i i' k k' hl q q' x y hr hr'
    · rw [layB_n h]
      exact ⟨ih1, ih2, ih3⟩
