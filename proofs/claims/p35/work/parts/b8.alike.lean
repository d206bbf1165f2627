/-! when two drawings are alike, as the law tells it: point by point of the one box -/
def BitA (R : Nat → Int32) (a b x y : Nat) : Prop := b + y < 16 ∧ a + x < 16 ∧ bit1 (R (b + y)) (nI (a + x)) = 1
theorem bit_gl {w : Int32} {j : Nat} (hj : j < 32) : bit1 w (nI j) = 1 ↔ w.toBitVec.getLsbD j = true := by
  rw [bit1_if hj]
  cases w.toBitVec.getLsbD j
  · exact ⟨fun h => absurd h (by decide), fun h => nomatch h⟩
  · exact ⟨fun _ => rfl, fun _ => rfl⟩
theorem rc_bit {R : Nat → Int32} {a b i x : Nat} (hr : RBr R) (ha : a < 16) (hx : x < 32) : bit1 (rcB R a b i) (nI x) = 1 ↔ BitA R a b x i := by
  unfold rcB BitA
  by_cases h : b + i < 16
  · rw [if_pos h, bit_gl hx, mask31 (by omega), Int32.toBitVec_shiftRight]
    unfold BitVec.sshiftRight'
    rw [smod32 (by omega), BitVec.getLsbD_sshiftRight]
    by_cases e : a + x < 32
    · rw [if_pos e, show (decide (32 ≤ x)) = false by simp; omega, Bool.not_false, Bool.true_and, ← bit_gl e]
      refine ⟨fun q => ⟨h, ?_, q⟩, fun q => q.2.2⟩
      refine Nat.lt_of_not_le fun z => ?_
      rw [hr (b + i) (a + x) z e] at q
      exact absurd q (by decide)
    · rw [if_neg e, BitVec.msb_eq_getLsbD_last]
      have z : ¬ (R (b + i)).toBitVec.getLsbD 31 = true := fun q => by
        have := hr (b + i) 31 (by omega) (by omega)
        rw [(bit_gl (by omega)).mpr q] at this
        exact absurd this (by decide)
      refine ⟨fun q => ?_, fun q => by omega⟩
      rw [Bool.and_eq_true] at q
      exact absurd q.2 z
  · rw [if_neg h, bit_z hx]
    exact ⟨fun q => absurd q (by decide), fun q => absurd q.1 h⟩
theorem rc_eq {R R' : Nat → Int32} {a b a' b' i : Nat} (hr : RBr R) (hr' : RBr R') (ha : a < 16) (ha' : a' < 16) : rcB R a b i = rcB R' a' b' i ↔ ∀ x, x < 16 → (BitA R a b x i ↔ BitA R' a' b' x i) := by
  constructor
  · intro h x hx
    rw [← rc_bit hr ha (by omega), ← rc_bit hr' ha' (by omega), h]
  · intro h
    apply Int32.toBitVec_inj.mp
    apply BitVec.eq_of_getLsbD_eq
    intro j hj
    apply Bool.eq_iff_iff.mpr
    rw [← bit_gl hj, ← bit_gl hj, rc_bit hr ha hj, rc_bit hr' ha' hj]
    by_cases e : j < 16
    · exact h j e
    · exact ⟨fun q => by have := q.2.1; omega, fun q => by have := q.2.1; omega⟩
theorem al_le {R U R' U' : Nat → Int32} {a b c d a' b' c' d' : Nat} (h : MM R U a b c d) (h' : MM R' U' a' b' c' d') (k : ∀ x y, x < 16 → y < 16 → (BitA R a b x y → BitA R' a' b' x y) ∧ (BitA U a b x y → BitA U' a' b' x y)) : c - a ≤ c' - a' ∧ d - b ≤ d' - b' := by
  have tr : ∀ e x y, Str R U e x y → Str R' U' e (a' + (x - a)) (b' + (y - b)) ∧ a ≤ x ∧ b ≤ y := by
    intro e x y s
    obtain ⟨m1, m2, -, -⟩ := h.1 _ _ _ s
    obtain ⟨s1, s2, s3⟩ := s
    obtain ⟨k1, k2⟩ := k (x - a) (y - b) (by omega) (by omega)
    have ex : a + (x - a) = x := by omega
    have ey : b + (y - b) = y := by omega
    refine ⟨?_, m1, m2⟩
    rcases s3 with ⟨e0, s3⟩ | ⟨e0, s3⟩
    · have q := k1 ⟨by omega, by omega, by rw [ex, ey]; exact s3⟩
      exact ⟨q.2.1, q.1, Or.inl ⟨e0, q.2.2⟩⟩
    · have q := k2 ⟨by omega, by omega, by rw [ex, ey]; exact s3⟩
      exact ⟨q.2.1, q.1, Or.inr ⟨e0, q.2.2⟩⟩
  obtain ⟨-, -, -, ⟨e3, x3, y3, s3, q3⟩, e4, x4, y4, s4, q4⟩ := h
  obtain ⟨t3, b3, b3'⟩ := tr _ _ _ s3
  obtain ⟨t4, b4, b4'⟩ := tr _ _ _ s4
  have u3 := h'.1 _ _ _ t3
  have u4 := h'.1 _ _ _ t4
  omega
def CE (g g' : Pg) (x y : Nat) : Prop := (bit1 (cR (pgF g) (pgb g + y)) (nI (pga g + x)) = 1 ↔ bit1 (cR (pgF g') (pgb g' + y)) (nI (pga g' + x)) = 1) ∧ (bit1 (cU (pgF g) (pgb g + y)) (nI (pga g + x)) = 1 ↔ bit1 (cU (pgF g') (pgb g' + y)) (nI (pga g' + x)) = 1)
def AlL (g g' : Pg) : Prop := pgk g = pgk g' ∧ pgc g - pga g = pgc g' - pga g' ∧ pgd g - pgb g = pgd g' - pgb g' ∧ ∀ i, i < (pgc g - pga g + 1) * (pgd g - pgb g + 1) → CE g g' (i % (pgc g - pga g + 1)) (i / (pgc g - pga g + 1))
theorem AlL_iff {g g' : Pg} (h : GB g) (h' : GB g') : AlG g g' ↔ AlL g g' := by
  have r1 : RB (pgF g) := finB_RB h.1
  have r2 : RB (pgF g') := finB_RB h'.1
  obtain ⟨l1, l2, l3, l4, l5, l6⟩ := h.lim
  obtain ⟨l1', l2', l3', l4', l5', l6'⟩ := h'.lim
  have h0 := h.2.2.2.2.1
  have h1 := h.2.2.2.2.2
  have h0' := h'.2.2.2.2.1
  have h1' := h'.2.2.2.2.2
  unfold AlG AlP
  by_cases ek : pgk g = pgk g'
  · by_cases ez : pgk g = 0
    · obtain ⟨n1, a1, a2, a3, a4⟩ := h0 ez
      obtain ⟨n1', a1', a2', a3', a4'⟩ := h0' (by omega)
      have b1 : ∀ x y, ¬ BitA (cR (pgF g)) (pga g) (pgb g) x y := fun x y q => n1 0 _ _ ⟨q.2.1, q.1, Or.inl ⟨rfl, q.2.2⟩⟩
      have b2 : ∀ x y, ¬ BitA (cU (pgF g)) (pga g) (pgb g) x y := fun x y q => n1 1 _ _ ⟨q.2.1, q.1, Or.inr ⟨rfl, q.2.2⟩⟩
      have b3 : ∀ x y, ¬ BitA (cR (pgF g')) (pga g') (pgb g') x y := fun x y q => n1' 0 _ _ ⟨q.2.1, q.1, Or.inl ⟨rfl, q.2.2⟩⟩
      have b4 : ∀ x y, ¬ BitA (cU (pgF g')) (pga g') (pgb g') x y := fun x y q => n1' 1 _ _ ⟨q.2.1, q.1, Or.inr ⟨rfl, q.2.2⟩⟩
      refine ⟨fun _ => ⟨ek, by rw [a1, a3, a1', a3'], by rw [a2, a4, a2', a4'], fun i hi => ?_⟩, fun _ => ⟨ek, fun i hi => ⟨(rc_eq r1.1 r2.1 l1 l1').mpr (fun x hx => ⟨fun q => absurd q (b1 x i), fun q => absurd q (b3 x i)⟩), (rc_eq r1.2 r2.2 l1 l1').mpr (fun x hx => ⟨fun q => absurd q (b2 x i), fun q => absurd q (b4 x i)⟩)⟩⟩⟩
      have e0 : i = 0 := by
        rw [a1, a2, a3, a4] at hi
        have : i < 1 := hi
        omega
      subst e0
      rw [Nat.zero_mod, Nat.zero_div]
      refine ⟨⟨fun q => absurd ⟨by omega, by omega, q⟩ (b1 0 0), fun q => absurd ⟨by omega, by omega, q⟩ (b3 0 0)⟩, ⟨fun q => absurd ⟨by omega, by omega, q⟩ (b2 0 0), fun q => absurd ⟨by omega, by omega, q⟩ (b4 0 0)⟩⟩
    · have M := h1 (by omega)
      have M' := h1' (by omega)
      have hb := h.box
      have hb' := h'.box
      have c1 : pgc g ≤ 15 ∧ pgd g ≤ 15 := by
        rcases hb with q | q
        · exact absurd q.1 ez
        · exact ⟨q.2.2.2.2.1, q.2.2.2.2.2⟩
      have c2 : pgc g' ≤ 15 ∧ pgd g' ≤ 15 := by
        rcases hb' with q | q
        · exact absurd q.1 (by omega)
        · exact ⟨q.2.2.2.2.1, q.2.2.2.2.2⟩
      refine ⟨fun q => ?_, fun q => ⟨ek, fun i hi => ?_⟩⟩
      · have k : ∀ x y, x < 16 → y < 16 → (BitA (cR (pgF g)) (pga g) (pgb g) x y ↔ BitA (cR (pgF g')) (pga g') (pgb g') x y) ∧ (BitA (cU (pgF g)) (pga g) (pgb g) x y ↔ BitA (cU (pgF g')) (pga g') (pgb g') x y) := fun x y hx hy => ⟨(rc_eq r1.1 r2.1 l1 l1').mp (q.2 y hy).1 x hx, (rc_eq r1.2 r2.2 l1 l1').mp (q.2 y hy).2 x hx⟩
        have z1 := al_le M M' (fun x y hx hy => ⟨(k x y hx hy).1.mp, (k x y hx hy).2.mp⟩)
        have z2 := al_le M' M (fun x y hx hy => ⟨(k x y hx hy).1.mpr, (k x y hx hy).2.mpr⟩)
        refine ⟨ek, by omega, by omega, fun i hi => ?_⟩
        have hx : i % (pgc g - pga g + 1) < pgc g - pga g + 1 := Nat.mod_lt _ (by omega)
        have hy : i / (pgc g - pga g + 1) < pgd g - pgb g + 1 := Nat.div_lt_of_lt_mul hi
        generalize i % (pgc g - pga g + 1) = x at hx
        generalize i / (pgc g - pga g + 1) = y at hy
        obtain ⟨k1, k2⟩ := k x y (by omega) (by omega)
        exact ⟨⟨fun s => (k1.mp ⟨by omega, by omega, s⟩).2.2, fun s => (k1.mpr ⟨by omega, by omega, s⟩).2.2⟩, ⟨fun s => (k2.mp ⟨by omega, by omega, s⟩).2.2, fun s => (k2.mpr ⟨by omega, by omega, s⟩).2.2⟩⟩
      · obtain ⟨-, w1, w2, w3⟩ := q
        have ce : ∀ x y, x ≤ pgc g - pga g → y ≤ pgd g - pgb g → CE g g' x y := by
          intro x y hx hy
          have hi : x + y * (pgc g - pga g + 1) < (pgc g - pga g + 1) * (pgd g - pgb g + 1) := by
            have : (y + 1) * (pgc g - pga g + 1) ≤ (pgd g - pgb g + 1) * (pgc g - pga g + 1) := Nat.mul_le_mul_right _ (by omega)
            rw [Nat.mul_comm (pgc g - pga g + 1)]
            rw [Nat.succ_mul] at this
            omega
          have z := w3 _ hi
          rw [Nat.add_mul_mod_self_right, Nat.mod_eq_of_lt (by omega), Nat.add_mul_div_right _ _ (by omega), Nat.div_eq_of_lt (by omega), Nat.zero_add] at z
          exact z
        refine ⟨(rc_eq r1.1 r2.1 l1 l1').mpr (fun x hx => ⟨fun s => ?_, fun s => ?_⟩), (rc_eq r1.2 r2.2 l1 l1').mpr (fun x hx => ⟨fun s => ?_, fun s => ?_⟩)⟩
        · have m := M.1 0 _ _ ⟨s.2.1, s.1, Or.inl ⟨rfl, s.2.2⟩⟩
          exact ⟨by omega, by omega, (ce x i (by omega) (by omega)).1.mp s.2.2⟩
        · have m := M'.1 0 _ _ ⟨s.2.1, s.1, Or.inl ⟨rfl, s.2.2⟩⟩
          exact ⟨by omega, by omega, (ce x i (by omega) (by omega)).1.mpr s.2.2⟩
        · have m := M.1 1 _ _ ⟨s.2.1, s.1, Or.inr ⟨rfl, s.2.2⟩⟩
          exact ⟨by omega, by omega, (ce x i (by omega) (by omega)).2.mp s.2.2⟩
        · have m := M'.1 1 _ _ ⟨s.2.1, s.1, Or.inr ⟨rfl, s.2.2⟩⟩
          exact ⟨by omega, by omega, (ce x i (by omega) (by omega)).2.mpr s.2.2⟩
  · exact ⟨fun q => absurd q.1 ek, fun q => absurd q.1 ek⟩
