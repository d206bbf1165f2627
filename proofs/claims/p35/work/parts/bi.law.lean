/-! the law's loop -/
theorem and_nn (v : Int32) : ∃ j, j < 2 ^ 31 ∧ v &&& (2147483647 : Int32) = nI j := by
  have h : ¬ v &&& (2147483647 : Int32) < 0 := by
    intro q
    have q2 := Int32.lt_iff_toInt_lt.mp q
    have m : (v &&& (2147483647 : Int32)).toBitVec.msb = false := by
      rw [Int32.toBitVec_and, BitVec.msb_and, show (2147483647 : Int32).toBitVec.msb = false by decide]
      simp
    have e : (v &&& (2147483647 : Int32)).toInt = ((v &&& (2147483647 : Int32)).toBitVec.toNat : Int) := by
      show (v &&& (2147483647 : Int32)).toBitVec.toInt = _
      rw [BitVec.toInt_eq_msb_cond, m]
      simp
    rw [e, show (0 : Int32).toInt = 0 by decide] at q2
    omega
  obtain ⟨j, hj, e⟩ := nI_of h
  exact ⟨j, hj, e⟩
section LWL
variable {fu x ac ap aw : Nat} {P : LwP} {Ls : Nat} {xs : Nat → Int32}
theorem drw_in {k : Nat} (hL : Ls < 2 ^ 31) (hk : k < Ls) : ∃ j, j < 2 ^ 31 ∧ drw Ls xs (nI k) = nI j := by
  unfold drw
  rw [if_neg (show ¬ nI Ls ≤ nI k from fun q => by have := (nI_leI (by omega) (by omega)).mp q; omega)]
  exact and_nn _
theorem LawI.apm (h : LawI x ac ap aw P) : apM P.1 P.2 := by
  obtain ⟨K, T, V, N, n, np, G, ne, ew, eo, es, nw, wp, we, wc, wo, W, H, q⟩ := h
  exact q.2.2.1.2.2.2.1
theorem LawI.wall {a b : Nat} (hfu : 5000 ≤ fu) (ha : a < 2 ^ 31) (hb : b < 2 ^ 31) (h : LawI x ac ap aw P) : ∃ P', fL_isWall fu P x ac ap aw (nI a) (nI b) = some (1, P') ∧ LawI x ac ap aw P' := by
  obtain ⟨K, T, V, N, n, np, G, ne, ew, eo, es, nw, wp, we, wc, wo, W, H, q⟩ := h
  obtain ⟨P', z1, z2⟩ := ok_isWall hfu ha hb q
  exact ⟨P', z1, z2.law⟩
theorem lw_216 {k a b : Nat} {x6 : Int32} {rec107 : LwP → Nat → Nat → Nat → Nat → Int32 → Int32 → Int32 → Option (Int32 × LwP)} (hfu : 5000 ≤ fu) (hk : k < 2 ^ 30) (ha : a < 2 ^ 31) (hb : b < 2 ^ 31) (hrec : ∀ P, LawI x ac ap aw P → ∃ P', rec107 P x ac ap aw 1 x6 (nI (k + 1)) = some (1, P')) (h : LawI x ac ap aw P) : ∃ P', fL_law_L216 fu Ls xs rec107 P x ac ap aw x6 (nI k) (nI a) (nI b) = some (1, P') := by
  have e245 : ∀ P, fL_law_L245 fu Ls xs rec107 P x ac ap aw x6 (nI k) = rec107 P x ac ap aw 1 x6 (nI (k + 1)) := by
    intro P
    unfold fL_law_L245 fL_law_L250
    rw [nI_1]
  have ea : nI a / (3 : Int32) = nI (a / 3) := pk_div ha (by decide) (by decide)
  have eb : nI b / (3 : Int32) = nI (b / 3) := pk_div hb (by decide) (by decide)
  unfold fL_law_L216
  by_cases c : nI k - nI k / (40 : Int32) * (40 : Int32) = (39 : Int32)
  · obtain ⟨P', z1, z2⟩ := h.wall (a := a / 3) (b := b / 3) hfu (by omega) (by omega)
    rw [if_pos c, ea, eb, z1, bW_some, apC_ok z2.apm, if_neg n1z, e245]
    exact hrec P' z2
  · rw [if_neg c, e245]
    exact hrec P h
theorem ok_law (hfu : 100000000 ≤ fu) (hL : Ls < 2 ^ 20) : ∀ (t k : Nat) (P : LwP), k + t = Ls / 3 → LawI x ac ap aw P → ∃ P', fL_law_L107 fu Ls xs (t + 1) P x ac ap aw 1 (nI (Ls / 3)) (nI k) = some (1, P') := by
  intro t
  induction t with
  | zero =>
    intro k P hk h
    have hk : k = Ls / 3 := hk
    subst hk
    obtain ⟨P', z1, z2⟩ := h.wall (a := 7) (b := 3) (fu := fu) (by omega) (by decide) (by decide)
    refine ⟨P', ?_⟩
    show fL_law_L107b fu Ls xs (fL_law_L107 fu Ls xs 0) P x ac ap aw 1 (nI (Ls / 3)) (nI (Ls / 3)) = _
    unfold fL_law_L107b fL_law_L258
    rw [if_pos (Int32.le_refl _), if_neg n1z, show (7 : Int32) = nI 7 from rfl, show (3 : Int32) = nI 3 from rfl, z1, bW_some, apC_ok z2.apm, if_neg n1z]
  | succ t ih =>
    intro k P hk h
    have hk3 : 3 * k + 2 < Ls := by omega
    have e3 : (3 : Int32) * nI k = nI (3 * k) := by rw [show (3 : Int32) = nI 3 from rfl, pk_mul]
    have e31 : nI (3 * k) + (1 : Int32) = nI (3 * k + 1) := nI_1 _
    have e32 : nI (3 * k) + (2 : Int32) = nI (3 * k + 2) := by rw [show (2 : Int32) = nI 2 from rfl, nI_add]
    obtain ⟨d, hd, ed⟩ := drw_in (xs := xs) (by omega) (show 3 * k < Ls by omega)
    obtain ⟨a, ha, ea⟩ := drw_in (xs := xs) (by omega) (show 3 * k + 1 < Ls by omega)
    obtain ⟨b, hb, eb⟩ := drw_in (xs := xs) (by omega) (show 3 * k + 2 < Ls by omega)
    have nn : ∀ j, j < 2 ^ 31 → (0 : Int32) ≤ nI j := fun j hj => (nI_leI (by omega : 0 < 2 ^ 31) hj).mpr (Nat.zero_le _)
    obtain ⟨P1, z1, z2⟩ := ok_step (fu := fu) hfu hd ha hb h
    have r216 : ∀ P, LawI x ac ap aw P → ∃ P', fL_law_L216 fu Ls xs (fL_law_L107 fu Ls xs (t + 1)) P x ac ap aw (nI (Ls / 3)) (nI k) (nI a) (nI b) = some (1, P') := fun P hP => lw_216 (by omega) (by omega) ha hb (fun P hP => ih (k + 1) P (by omega) hP) hP
    show ∃ P', fL_law_L107b fu Ls xs (fL_law_L107 fu Ls xs (t + 1)) P x ac ap aw 1 (nI (Ls / 3)) (nI k) = some (1, P')
    unfold fL_law_L107b
    rw [if_neg (show ¬ nI (Ls / 3) ≤ nI k from fun q => by have := (nI_leI (by omega) (by omega)).mp q; omega), if_neg n1z, e3, e31, e32, if_pos (nn _ (by omega)), if_pos (nn _ (by omega)), if_pos (nn _ (by omega)), ed, ea, eb, z1, bW_some, apC_ok z2.apm, if_neg n1z]
    have z3 := r216 P1 z2
    have z2' := z2
    obtain ⟨K, T, V, N, n, np, G, ne, ew, eo, es, nw, wp, we, wc, wo, W, H, q⟩ := z2
    have hO := q.2.2.1
    have d0 := q.2.2.2.1.1
    have i3 := q.2.2.2.2.1.1
    have h10 := q.2.2.2.2.1.2.2.2.2.2.1
    rw [if_pos (m_k q.1), m_drafted q.1, bi_some, if_pos hO.c0, cl0, d0, if_pos rfl, if_pos hO.c3, cl3, i3]
    by_cases c1 : nI np = 0
    · rw [if_pos c1]
      exact z3
    · have hnp : 0 < np := Nat.pos_of_ne_zero (fun q => c1 (by rw [q]; rfl))
      rw [if_neg c1]
      by_cases c2 : nI k - nI k / (12 : Int32) * (12 : Int32) = (11 : Int32)
      · have da : nI a / (5 : Int32) = nI (a / 5) := pk_div ha (by decide) (by decide)
        have db : nI b / (5 : Int32) = nI (b / 5) := pk_div hb (by decide) (by decide)
        have ma : nI (a / 5) - nI (a / 5) / nI np * nI np = nI (a / 5 % np) := pk_rem (by omega) hnp (by omega)
        have mb : nI (b / 5) - nI (b / 5) / nI np * nI np = nI (b / 5 % np) := pk_rem (by omega) hnp (by omega)
        obtain ⟨X2, y1, y2⟩ := ok_areTwo (fu := fu) (p := a / 5 % np) (q := b / 5 % np) (by omega) q (Nat.mod_lt _ hnp) (Nat.mod_lt _ hnp)
        rw [if_pos c2, if_pos hO.c3, if_neg c1, if_pos hO.c3, if_neg c1, da, db, ma, mb, y1, bW_some, apC_ok y2.law.apm, if_neg n1z]
        exact r216 _ y2.law
      · rw [if_neg c2]
        exact z3
end LWL
