theorem q_great1 {p fu : Nat} {S : SM} {R U : Nat → Int32} {isX : Int32} (hp : p < 30) (hx : isX = 0 ∨ isX = 1) (hR : ∀ j, j < 16 → ar S 13 (16 * p + j) = R j) (hU : ∀ j, j < 16 → ar S 14 (16 * p + j) = U j) : ∀ (t k m a : Nat), k + t = 256 → a ≤ 16 → (∀ j e, j < k → Str R U e (j % 16) (j / 16) → gC isX e (j % 16) (j / 16) ≤ a) → (a = 0 ∨ ∃ j e, j < k ∧ Str R U e (j % 16) (j / 16) ∧ a = gC isX e (j % 16) (j / 16)) →
    ∃ a', fX12_greatestOf_L5 fu S (m + t + 1) (nI p) isX (nI a) (nI k) = some (nI a') ∧ a' ≤ 16 ∧ (∀ j e, j < 256 → Str R U e (j % 16) (j / 16) → gC isX e (j % 16) (j / 16) ≤ a') ∧ (a' = 0 ∨ ∃ j e, j < 256 ∧ Str R U e (j % 16) (j / 16) ∧ a' = gC isX e (j % 16) (j / 16)) := by
  intro t
  induction t with
  | zero =>
    intro k m a hk h1 h2 h3
    have hk : k = 256 := hk
    subst hk
    refine ⟨a, ?_, h1, h2, h3⟩
    show fX12_greatestOf_L5b fu S (fX12_greatestOf_L5 fu S m) (nI p) isX (nI a) (nI 256) = _
    unfold fX12_greatestOf_L5b
    rw [if_pos (by decide)]
  | succ t ih =>
    intro k m a hk h1 h2 h3
    have hd : nI k / (16 : Int32) = nI (k / 16) := pk_div (d := 16) (by omega) (by decide) (by decide)
    have hr : nI k - nI k / (16 : Int32) * (16 : Int32) = nI (k % 16) := pk_rem (d := 16) (by omega) (by decide) (by decide)
    have hy : k / 16 < 16 := by omega
    have hxx : k % 16 < 16 := by omega
    have hk256 : k < 256 := by omega
    have i13 : inS 0 13 (nI (16 * p + k / 16)) = true := inS_ok (by decide) rfl (by show 16 * p + k / 16 < 480; omega) (by decide)
    have i14 : inS 0 14 (nI (16 * p + k / 16)) = true := inS_ok (by decide) rfl (by show 16 * p + k / 16 < 480; omega) (by decide)
    have hcl : (nI (16 * p + k / 16)).toNatClampNeg = 16 * p + k / 16 := nI_clamp (by omega)
    obtain ⟨gv1, gv2⟩ := gV_ok (R := R) (U := U) hk256 hx
    have b1 := bit_01 (w := R (k / 16)) (show k % 16 < 32 by omega)
    have b2 := bit_01 (w := U (k / 16)) (show k % 16 < 32 by omega)
    have head : fX12_greatestOf_L5 fu S (m + (t + 1) + 1) (nI p) isX (nI a) (nI k) = fX12_greatestOf_L79 fu S (fX12_greatestOf_L5 fu S (m + t + 1)) (nI p) isX (nI a) (nI k) (bit1 (R (k / 16)) (nI (k % 16))) (bit1 (U (k / 16)) (nI (k % 16))) := by
      show fX12_greatestOf_L5b fu S (fX12_greatestOf_L5 fu S (m + t + 1)) (nI p) isX (nI a) (nI k) = _
      unfold fX12_greatestOf_L5b
      have e45 : ∀ rb, fX12_greatestOf_L45 fu S (fX12_greatestOf_L5 fu S (m + t + 1)) (nI p) isX (nI a) (nI k) rb = fX12_greatestOf_L79 fu S (fX12_greatestOf_L5 fu S (m + t + 1)) (nI p) isX (nI a) (nI k) rb (bit1 (U (k / 16)) (nI (k % 16))) := by
        intro rb
        unfold fX12_greatestOf_L45
        rw [hr, hd, q_idx, if_pos i14, hcl, hU _ hy]
        rcases b2 with u | u
        · rw [u, if_neg (show ¬ (U (k / 16) >>> (nI (k % 16) &&& 31)) &&& (1 : Int32) = 1 from fun q => by have q : bit1 (U (k / 16)) (nI (k % 16)) = 1 := q; rw [u] at q; exact absurd q (by decide))]
        · rw [u, if_pos (show (U (k / 16) >>> (nI (k % 16) &&& 31)) &&& (1 : Int32) = 1 from u)]
      rw [hr, hd, if_neg (show ¬ (256 : Int32) ≤ nI k from fun q => by have := (nI_leI (by omega : 256 < 2 ^ 31) (by omega)).mp q; omega), q_idx, if_pos i13, hcl, hR _ hy, e45, e45]
      rcases b1 with u | u
      · rw [u, if_neg (show ¬ (R (k / 16) >>> (nI (k % 16) &&& 31)) &&& (1 : Int32) = 1 from fun q => by have q : bit1 (R (k / 16)) (nI (k % 16)) = 1 := q; rw [u] at q; exact absurd q (by decide))]
      · rw [u, if_pos (show (R (k / 16) >>> (nI (k % 16) &&& 31)) &&& (1 : Int32) = 1 from u)]
    rw [head, q_g79 hk256 hx b1 b2, nI_1]
    have hv : gV isX (bit1 (R (k / 16)) (nI (k % 16))) (bit1 (U (k / 16)) (nI (k % 16))) k ≤ 16 := by
      unfold gV
      repeat' split
      all_goals omega
    by_cases h0 : bit1 (R (k / 16)) (nI (k % 16)) = 0 ∧ bit1 (U (k / 16)) (nI (k % 16)) = 0
    · rw [if_pos h0]
      refine ih (k + 1) m a (by omega) h1 (fun j e hj hs => ?_) (h3.imp_right fun ⟨j, e, u1, u2⟩ => ⟨j, e, by omega, u2⟩)
      by_cases ej : j = k
      · rw [ej] at hs
        obtain ⟨-, -, ⟨-, q⟩ | ⟨-, q⟩⟩ := hs
        · rw [h0.1] at q; exact absurd q (by decide)
        · rw [h0.2] at q; exact absurd q (by decide)
      · exact h2 j e (by omega) hs
    · rw [if_neg h0]
      by_cases hle : gV isX (bit1 (R (k / 16)) (nI (k % 16))) (bit1 (U (k / 16)) (nI (k % 16))) k ≤ a
      · rw [if_pos ((nI_leI (by omega) (by omega)).mpr hle)]
        refine ih (k + 1) m a (by omega) h1 (fun j e hj hs => ?_) (h3.imp_right fun ⟨j, e, u1, u2⟩ => ⟨j, e, by omega, u2⟩)
        by_cases ej : j = k
        · rw [ej] at hs ⊢
          exact Nat.le_trans (gv1 e hs) hle
        · exact h2 j e (by omega) hs
      · rw [if_neg (fun q => hle ((nI_leI (by omega) (by omega)).mp q))]
        obtain ⟨e0, s0, t0⟩ := gv2 h0
        refine ih (k + 1) m _ (by omega) hv (fun j e hj hs => ?_) (Or.inr ⟨k, e0, by omega, s0, t0⟩)
        by_cases ej : j = k
        · rw [ej] at hs ⊢
          exact gv1 e hs
        · exact Nat.le_trans (h2 j e (by omega) hs) (by omega)
