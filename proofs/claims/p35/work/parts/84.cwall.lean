/-! THE CLASS's WALL -/
theorem sub_lt {A B x : Nat} (hA : A < 2 ^ 30) (hB : B < 2 ^ 30) (hx : x < 2 ^ 31) : nI A - nI B < nI x ↔ A < x + B := by
  rw [Int32.lt_iff_toInt_lt, pk_sub_toInt hA hB, nI_toInt hx]
  omega
/-- only cells of the wall and where works hang change -/
def LWF (ta : Nat) (Q : Nat → Prop) (X X1 : Mem) : Prop := mK X1 = mK X ∧ mR X1 = mR X ∧ aI X1 = aI X ∧ aR X1 = aR X ∧ mZ X1 = mZ X ∧ (∀ a, a ≠ ta → aJ X1 a = aJ X a) ∧ ∀ k a, ((k < 1004 ∨ 1006 < k) ∨ ¬ Q a) → mI X1 k a = mI X k a
theorem LWF.rfl9 {ta : Nat} {Q : Nat → Prop} {X : Mem} : LWF ta Q X X := ⟨rfl, rfl, rfl, rfl, rfl, fun _ _ => rfl, fun _ _ _ => rfl⟩
theorem LWF.trans {ta : Nat} {Q : Nat → Prop} {X X1 X2 : Mem} (h : LWF ta Q X X1) (k : LWF ta Q X1 X2) : LWF ta Q X X2 := ⟨k.1.trans h.1, k.2.1.trans h.2.1, k.2.2.1.trans h.2.2.1, k.2.2.2.1.trans h.2.2.2.1, k.2.2.2.2.1.trans h.2.2.2.2.1, fun a ha => (k.2.2.2.2.2.1 a ha).trans (h.2.2.2.2.2.1 a ha), fun i a ha => (k.2.2.2.2.2.2 i a ha).trans (h.2.2.2.2.2.2 i a ha)⟩
theorem LWF.sJ {ta i : Nat} {Q : Nat → Prop} {X : Mem} {v : Int64} : LWF ta Q X (sJ X ta i v) := ⟨rfl, rfl, rfl, rfl, rfl, fun a ha => funext fun j => if_neg (fun q => ha q.1), fun _ _ _ => rfl⟩
theorem LWF.wI {ta k a : Nat} {Q : Nat → Prop} {X : Mem} {v : Int32} (h1 : 1004 ≤ k ∧ k ≤ 1006) (h2 : Q a) : LWF ta Q X (wI X k a v) := ⟨rfl, rfl, rfl, rfl, rfl, fun a ha => rfl, fun i b hb => if_neg (fun q => hb.elim (fun z => by omega) (fun z => z (by rw [q.2]; exact h2)))⟩
theorem LWF.mono {ta : Nat} {Q Q' : Nat → Prop} {X X1 : Mem} (h : LWF ta Q X X1) (k : ∀ a, Q a → Q' a) : LWF ta Q' X X1 := ⟨h.1, h.2.1, h.2.2.1, h.2.2.2.1, h.2.2.2.2.1, h.2.2.2.2.2.1, fun i a ha => h.2.2.2.2.2.2 i a (ha.imp_right fun z q => z (k a q))⟩
theorem aJ_sJ {X : Mem} {i a j b : Nat} {v : Int64} : aJ (sJ X a i v) b j = if b = a ∧ j = i then v else aJ X b j := (Eq.refl _).trans (Eq.refl _)
theorem aJ_wI {X : Mem} {k a j b : Nat} {v : Int32} : aJ (wI X k a v) b j = aJ X b j := (Eq.refl _).trans (Eq.refl _)
theorem mI_sJ {X : Mem} {i a j b : Nat} {v : Int64} : mI (sJ X a i v) j b = mI X j b := (Eq.refl _).trans (Eq.refl _)
section CWL
variable {fu wl ta W H w h : Nat}
theorem w_taken {X : Mem} {rows : Nat → Int64} {y : Nat} (h1 : mK X wl = some (9, 0)) (h2 : mR X 900 wl = some ta) (h3 : mK X ta = some (22, 40)) (hr : ∀ r, r < 40 → aJ X ta r = rows r) (hy : y + h ≤ 40) : ∀ (t i m : Nat) (acc : Int64), i + t = y + h → ∃ o, fX9_takenFrom_L5 fu X (m + t + 1) wl (nI y) (nI h) acc (nI i) = some o ∧ ∀ x w, FrRow o x w ↔ FrRow acc x w ∧ ∀ r, i ≤ r → r < y + h → FrRow (rows r) x w := by
  intro t
  induction t with
  | zero =>
    intro i m acc hi
    have hi : i = y + h := hi
    refine ⟨acc, ?_, fun x w => ⟨fun q => ⟨q, fun r a b => by omega⟩, fun q => q.1⟩⟩
    show fX9_takenFrom_L5b fu X (fX9_takenFrom_L5 fu X m) wl (nI y) (nI h) acc (nI i) = _
    unfold fX9_takenFrom_L5b
    rw [nI_add, hi, if_pos (Int32.le_refl _)]
  | succ t ih =>
    intro i m acc hi
    show ∃ o, fX9_takenFrom_L5b fu X (fX9_takenFrom_L5 fu X (m + t + 1)) wl (nI y) (nI h) acc (nI i) = some o ∧ _
    unfold fX9_takenFrom_L5b
    rw [nI_add, if_neg (fun q => by have := (nI_leI (by omega) (by omega)).mp q; omega), if_neg (nI_pos (by omega)), if_pos h1, h2, bi_some, alen_of h3 (by decide), bi_some, if_neg (fun q => by have := (nI_leI (by omega) (by omega)).mp q; omega), bi_some, if_pos (inb_of (t := 2) h3 (by omega : i < 40) (by omega)), nI_clamp (by omega), hr i (by omega), nI_1]
    obtain ⟨o, z1, z2⟩ := ih (i + 1) m (acc ||| rows i) (by omega)
    refine ⟨o, z1, fun x w => (z2 x w).trans ⟨fun q => ?_, fun q => ?_⟩⟩
    · obtain ⟨q1, q2⟩ := q
      obtain ⟨q3, q4⟩ := fr_or.mp q1
      refine ⟨q3, fun r a b => ?_⟩
      by_cases e : r = i
      · rw [e]; exact q4
      · exact q2 r (by omega) b
    · exact ⟨fr_or.mpr ⟨q.1, q.2 i (Nat.le_refl i) (by omega)⟩, fun r a b => q.2 r (by omega) b⟩
theorem w_first {X : Mem} {o : Int64} (hw : w < 18) (hW : W ≤ 40) : ∀ (t x m : Nat), x + t = W + 1 → (∀ x', x' < x → ¬ (x' + w ≤ W ∧ FrRow o x' w)) → ∃ r, fX9_firstFree_L3 fu X (m + t + 1) o (maskB w) (nI W - nI w) (nI x) = some r ∧ ((r = -1 ∧ ∀ x', ¬ (x' + w ≤ W ∧ FrRow o x' w)) ∨ ∃ x0, r = nI x0 ∧ x0 + w ≤ W ∧ FrRow o x0 w ∧ ∀ x', x' < x0 → ¬ FrRow o x' w) := by
  intro t
  induction t with
  | zero =>
    intro x m hx hn
    refine ⟨-1, ?_, Or.inl ⟨rfl, fun x' q => ?_⟩⟩
    · show fX9_firstFree_L3b fu X (fX9_firstFree_L3 fu X m) o (maskB w) (nI W - nI w) (nI x) = _
      unfold fX9_firstFree_L3b
      rw [if_pos ((sub_lt (by omega) (by omega) (by omega)).mpr (by omega))]
    · exact hn x' (by omega) q
  | succ t ih =>
    intro x m hx hn
    show ∃ r, fX9_firstFree_L3b fu X (fX9_firstFree_L3 fu X (m + t + 1)) o (maskB w) (nI W - nI w) (nI x) = some r ∧ _
    unfold fX9_firstFree_L3b
    by_cases e : W < x + w
    · rw [if_pos ((sub_lt (by omega) (by omega) (by omega)).mpr e)]
      refine ⟨-1, rfl, Or.inl ⟨rfl, fun x' q => ?_⟩⟩
      exact hn x' (by omega) q
    · have hc : lg_cmp ((o >>> ((nI x).toInt64 &&& 63)) &&& maskB w) 0 = 0 ↔ FrRow o x w := (lg_cmp_eq _ _).trans (fr_shr hw (by omega))
      rw [if_neg (fun q => e ((sub_lt (by omega) (by omega) (by omega)).mp q))]
      by_cases ef : FrRow o x w
      · refine ⟨nI x, if_pos (hc.mpr ef), Or.inr ⟨x, rfl, by omega, ef, fun x' hx' q => hn x' hx' ⟨by omega, q⟩⟩⟩
      · obtain ⟨r, z1, z2⟩ := ih (x + 1) m (by omega) (fun x' hx' q => by
          by_cases ex : x' = x
          · rw [ex] at q; exact ef q.2
          · exact hn x' (by omega) q)
        exact ⟨r, (if_neg (fun q => ef (hc.mp q))).trans (by rw [nI_1]; exact z1), z2⟩
theorem w_take {Q : Nat → Prop} {y : Nat} {c : Int64} (hy : y + h ≤ 40) : ∀ (t i m : Nat) (X : Mem), i + t = y + h → mK X wl = some (9, 0) → mR X 900 wl = some ta → mK X ta = some (22, 40) → ∃ X', fX9_take_L3 fu (m + t + 1) X wl (nI y) (nI h) c (nI i) = some X' ∧ LWF ta Q X X' ∧ mI X' = mI X ∧ ∀ r, aJ X' ta r = if i ≤ r ∧ r < y + h then aJ X ta r ||| c else aJ X ta r := by
  intro t
  induction t with
  | zero =>
    intro i m X hi h1 h2 h3
    have hi : i = y + h := hi
    refine ⟨X, ?_, LWF.rfl9, rfl, fun r => by rw [if_neg (by omega)]⟩
    show fX9_take_L3b fu (fX9_take_L3 fu m) X wl (nI y) (nI h) c (nI i) = _
    unfold fX9_take_L3b
    rw [nI_add, hi, if_pos (Int32.le_refl _)]
  | succ t ih =>
    intro i m X hi h1 h2 h3
    show ∃ X', fX9_take_L3b fu (fX9_take_L3 fu (m + t + 1)) X wl (nI y) (nI h) c (nI i) = some X' ∧ _
    unfold fX9_take_L3b
    have hin : inb X 2 ta (nI i) = true := inb_of (t := 2) h3 (by omega) (by omega)
    rw [nI_add, if_neg (fun q => by have := (nI_leI (by omega) (by omega)).mp q; omega), if_neg (nI_pos (by omega)), if_pos h1, h2, bi_some, alen_of h3 (by decide), bi_some, if_neg (fun q => by have := (nI_leI (by omega) (by omega)).mp q; omega), bi_some, if_pos hin, if_pos hin, nI_clamp (by omega), nI_1]
    obtain ⟨X', z1, z2, z3, z4⟩ := ih (i + 1) m (sJ X ta i (aJ X ta i ||| c)) (by omega) h1 h2 h3
    refine ⟨X', z1, LWF.sJ.trans z2, z3, fun r => ?_⟩
    rw [z4, aJ_sJ]
    by_cases e : r = i
    · rw [if_neg (by omega), if_pos ⟨rfl, e⟩, if_pos (by omega), e]
    · rw [if_neg (show ¬ (ta = ta ∧ r = i) from fun q => e q.2)]
      by_cases e2 : i + 1 ≤ r ∧ r < y + h
      · rw [if_pos e2, if_pos (by omega)]
      · rw [if_neg e2, if_neg (by omega)]
/-- how a work hangs -/
def HgW (W : Nat) (o : Option Nat) (X : Mem) (a : Nat) : Prop := match o with
  | none => mI X 1004 a = 0
  | some k => mI X 1004 a = 1 ∧ mI X 1005 a = nI (k % W) ∧ mI X 1006 a = nI (k / W)
theorem w_place32 {X : Mem} {rows : Nat → Int64} {a : Nat} (hfu : 200 ≤ fu) (hw : w < 18) (hw0 : 0 < w) (hh : h < 18) (hh0 : 0 < h) (hW : W ≤ 40) (hW0 : 0 < W) (hH : H ≤ 40) (h1 : mK X wl = some (9, 0)) (h2 : mR X 900 wl = some ta) (h3 : mK X ta = some (22, 40)) (h4 : mI X 901 wl = nI W) (h5 : mI X 902 wl = nI H) (h6 : mK X a = some (10, 0)) (h7 : mI X 1004 a = 0) (hr : ∀ r, r < 40 → aJ X ta r = rows r) : ∀ (t y m : Nat), y + t = H + 1 → (∀ k, k / W < y → ¬ FitK rows W H w h k) →
    ∃ o X', fX9_place_L32 fu (m + t + 1) X wl a (nI w) (nI h) (maskB w) (nI y) = some X' ∧ FF (FitK rows W H w h) (W * H) o ∧ LWF ta (fun b => b = a) X X' ∧ HgW W o X' a ∧ ∀ r, r < 40 → aJ X' ta r = hangR W w h rows o r := by
  intro t
  induction t with
  | zero =>
    intro y m hy hn
    refine ⟨none, X, ?_, fun k _ q => ?_, LWF.rfl9, h7, hr⟩
    · show fX9_place_L32b fu (fX9_place_L32 fu m) X wl a (nI w) (nI h) (maskB w) (nI y) = _
      unfold fX9_place_L32b
      rw [if_pos h1, h5, if_pos ((sub_lt (by omega) (by omega) (by omega)).mpr (by omega))]
    · exact hn k (by have := q.2.1; omega) q
  | succ t ih =>
    intro y m hy hn
    show ∃ o X', fX9_place_L32b fu (fX9_place_L32 fu (m + t + 1)) X wl a (nI w) (nI h) (maskB w) (nI y) = some X' ∧ _
    unfold fX9_place_L32b
    by_cases e : H < y + h
    · refine ⟨none, X, ?_, fun k _ q => ?_, LWF.rfl9, h7, hr⟩
      · rw [if_pos h1, h5, if_pos ((sub_lt (by omega) (by omega) (by omega)).mpr e)]
      · exact hn k (by have := q.2.1; omega) q
    · obtain ⟨o9, t1, t2⟩ := w_taken (fu := fu) (h := h) (y := y) h1 h2 h3 hr (by omega) h y (fu - h - 1) 0 rfl
      rw [show fu - h - 1 + h + 1 = fu by omega] at t1
      have t1 : fX9_takenFrom fu X wl (nI y) (nI h) = some o9 := t1
      obtain ⟨r, f1, f2⟩ := w_first (fu := fu) (X := X) (o := o9) hw hW (W + 1) 0 (fu - (W + 1) - 1) (by omega) (fun x' hx' => absurd hx' (Nat.not_lt_zero x'))
      rw [show fu - (W + 1) - 1 + (W + 1) + 1 = fu by omega] at f1
      have f1 : fX9_firstFree fu X o9 (maskB w) (nI W - nI w) = some r := f1
      rw [if_pos h1, h5, if_neg (fun q => e ((sub_lt (by omega) (by omega) (by omega)).mp q)), t1, bi_some, h4, f1, bi_some]
      rcases f2 with ⟨rfl, f2⟩ | ⟨x0, rfl, f2, f3, f4⟩
      · rw [if_pos rfl, nI_1]
        refine ih (y + 1) m (by omega) (fun k hk q => ?_)
        by_cases ek : k / W = y
        · refine f2 (k % W) ⟨q.1, (t2 _ _).mpr ⟨fr_0, fun r' a b => q.2.2 r' (by omega) (by omega)⟩⟩
        · exact hn k (by omega) q
      · rw [if_neg (nI_nm1 (by omega))]
        have hx0 : x0 < W := by omega
        have e1 : (W * y + x0) % W = x0 := by rw [Nat.mul_add_mod]; exact Nat.mod_eq_of_lt hx0
        have e2 : (W * y + x0) / W = y := by rw [Nat.mul_add_div hW0, Nat.div_eq_of_lt hx0, Nat.add_zero]
        obtain ⟨X1, k1, k2, k3, k4⟩ := w_take (fu := fu) (wl := wl) (ta := ta) (h := h) (y := y) (Q := fun b => b = a) (c := shB (maskB w) x0) (by omega) h y (fu - h - 1) X rfl h1 h2 h3
        rw [show fu - h - 1 + h + 1 = fu by omega] at k1
        have k1 : fX9_take fu X wl (nI y) (nI h) (maskB w <<< ((nI x0).toInt64 &&& 63)) = some X1 := k1
        have h6' : mK X1 a = some (10, 0) := by rw [k2.1]; exact h6
        have hang : fX10_hangAt X1 a (nI x0) (nI y) = some (wI (wI (wI X1 1005 a (nI x0)) 1006 a (nI y)) 1004 a 1) := by
          unfold fX10_hangAt
          rw [if_pos h6']
        rw [k1, bi_some, if_pos h6', hang, bi_some]
        refine ⟨some (W * y + x0), _, rfl, ⟨?_, ?_, ?_⟩, ((k2.trans (LWF.wI (by omega) rfl)).trans (LWF.wI (by omega) rfl)).trans (LWF.wI (by omega) rfl), ?_, fun r hr9 => ?_⟩
        · have : y < H := by omega
          calc W * y + x0 < W * y + W := by omega
            _ = W * (y + 1) := by rw [Nat.mul_succ]
            _ ≤ W * H := Nat.mul_le_mul_left W this
        · unfold FitK
          rw [e1, e2]
          exact ⟨f2, by omega, fun r a b => ((t2 _ _).mp f3).2 r a b⟩
        · intro j hj q
          by_cases ej : j / W < y
          · exact hn j ej q
          · have hj2 : j / W = y := by
              have : j / W ≤ (W * y + x0) / W := Nat.div_le_div_right (Nat.le_of_lt hj)
              rw [e2] at this
              omega
            have hm := Nat.div_add_mod j W
            rw [hj2] at hm
            refine f4 (j % W) (by omega) ((t2 _ _).mpr ⟨fr_0, fun r' a b => q.2.2 r' (by omega) (by omega)⟩)
        · refine ⟨?_, ?_, ?_⟩
          · rw [mI_wI, if_pos ⟨rfl, rfl⟩]
          · rw [mI_wI, if_neg (by omega), mI_wI, if_neg (by omega), mI_wI, if_pos ⟨rfl, rfl⟩, e1]
          · rw [mI_wI, if_neg (by omega), mI_wI, if_pos ⟨rfl, rfl⟩, e2]
        · rw [aJ_wI, aJ_wI, aJ_wI, k4, hr r hr9]
          show _ = putK rows W w h (W * y + x0) r
          unfold putK
          rw [e1, e2]
end CWL
