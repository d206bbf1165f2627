/-! the reference's least coordinates
-/
theorem bit_orw {r u : Int32} {x : Nat} (h : x < 32) : bit1 (r ||| u) (nI x) = 1 ↔ bit1 r (nI x) = 1 ∨ bit1 u (nI x) = 1 := by
  rw [bit1_if h, bit1_if h, bit1_if h, Int32.toBitVec_or, BitVec.getLsbD_or]
  cases r.toBitVec.getLsbD x <;> cases u.toBitVec.getLsbD x <;> simp
/-- some stroke has its lesser point there -/
def Cel (R U : Nat → Int32) (x y : Nat) : Prop := ∃ e, Str R U e x y
theorem Cel_b {R U : Nat → Int32} {x y : Nat} (hx : x < 16) (hy : y < 16) : Cel R U x y ↔ bit1 (R y ||| U y) (nI x) = 1 := by
  rw [bit_orw (by omega)]
  constructor
  · rintro ⟨e, -, -, ⟨-, h⟩ | ⟨-, h⟩⟩
    · exact Or.inl h
    · exact Or.inr h
  · rintro (h | h)
    · exact ⟨0, hx, hy, Or.inl ⟨rfl, h⟩⟩
    · exact ⟨1, hx, hy, Or.inr ⟨rfl, h⟩⟩
theorem q_least1 {p fu : Nat} {S : SM} {R U : Nat → Int32} {isX : Int32} (hp : p < 30) (hx : isX = 0 ∨ isX = 1) (hR : ∀ j, j < 16 → ar S 13 (16 * p + j) = R j) (hU : ∀ j, j < 16 → ar S 14 (16 * p + j) = U j) (base : Nat) (hb : base ≤ 16) : ∀ (t k m a : Nat), k + t = 256 → a ≤ base → (∀ j, j < k → Cel R U (j % 16) (j / 16) → a ≤ (if isX = 0 then j / 16 else j % 16)) → (a = base ∨ ∃ j, j < k ∧ Cel R U (j % 16) (j / 16) ∧ a = (if isX = 0 then j / 16 else j % 16)) →
    ∃ a', fX12_leastOf_L19 fu S (m + t + 1) (nI p) isX (nI a) (nI k) = some (nI a') ∧ a' ≤ base ∧ (∀ j, j < 256 → Cel R U (j % 16) (j / 16) → a' ≤ (if isX = 0 then j / 16 else j % 16)) ∧ (a' = base ∨ ∃ j, j < 256 ∧ Cel R U (j % 16) (j / 16) ∧ a' = (if isX = 0 then j / 16 else j % 16)) := by
  intro t
  induction t with
  | zero =>
    intro k m a hk h1 h2 h3
    have hk : k = 256 := hk
    subst hk
    refine ⟨a, ?_, h1, h2, h3⟩
    show fX12_leastOf_L19b fu S (fX12_leastOf_L19 fu S m) (nI p) isX (nI a) (nI 256) = _
    unfold fX12_leastOf_L19b
    rw [if_pos (by decide)]
  | succ t ih =>
    intro k m a hk h1 h2 h3
    show ∃ a', fX12_leastOf_L19b fu S (fX12_leastOf_L19 fu S (m + t + 1)) (nI p) isX (nI a) (nI k) = some (nI a') ∧ _
    unfold fX12_leastOf_L19b
    have hd : nI k / (16 : Int32) = nI (k / 16) := pk_div (d := 16) (by omega) (by decide) (by decide)
    have hr : nI k - nI k / (16 : Int32) * (16 : Int32) = nI (k % 16) := pk_rem (d := 16) (by omega) (by decide) (by decide)
    have hy : k / 16 < 16 := by omega
    have hxx : k % 16 < 16 := by omega
    rw [hr, hd, if_neg (show ¬ (256 : Int32) ≤ nI k from fun q => by have := (nI_leI (by omega : 256 < 2 ^ 31) (by omega)).mp q; omega), q_idx, if_pos (inS_ok (by decide) rfl (by show 16 * p + k / 16 < 480; omega) (by decide)), if_pos (inS_ok (by decide) rfl (by show 16 * p + k / 16 < 480; omega) (by decide)), nI_clamp (by omega), hR _ hy, hU _ hy]
    have nx : ∀ a9, a9 ≤ base → (∀ j, j < k + 1 → Cel R U (j % 16) (j / 16) → a9 ≤ (if isX = 0 then j / 16 else j % 16)) → (a9 = base ∨ ∃ j, j < k + 1 ∧ Cel R U (j % 16) (j / 16) ∧ a9 = (if isX = 0 then j / 16 else j % 16)) → ∃ a', fX12_leastOf_L19 fu S (m + t + 1) (nI p) isX (nI a9) (nI k + 1) = some (nI a') ∧ a' ≤ base ∧ (∀ j, j < 256 → Cel R U (j % 16) (j / 16) → a' ≤ (if isX = 0 then j / 16 else j % 16)) ∧ (a' = base ∨ ∃ j, j < 256 ∧ Cel R U (j % 16) (j / 16) ∧ a' = (if isX = 0 then j / 16 else j % 16)) := fun a9 u1 u2 u3 => by
      rw [nI_1]
      exact ih (k + 1) m a9 (by omega) u1 u2 u3
    have e75 : ∀ b : Int32, fX12_leastOf_L75 fu S (fX12_leastOf_L19 fu S (m + t + 1)) (nI p) isX (nI a) (nI k) b = fX12_leastOf_L94 fu S (fX12_leastOf_L19 fu S (m + t + 1)) (nI p) isX (nI a) (nI k) b (nI (if isX = 0 then k / 16 else k % 16)) := by
      intro b
      unfold fX12_leastOf_L75
      rw [hr, hd]
      rcases hx with e | e
      · rw [if_pos e, if_pos e]
      · rw [if_neg (by rw [e]; decide), if_neg (by rw [e]; decide)]
    by_cases hc : Cel R U (k % 16) (k / 16)
    · rw [if_pos (show ((R (k / 16) ||| U (k / 16)) >>> (nI (k % 16) &&& 31)) &&& (1 : Int32) = 1 from (Cel_b hxx hy).mp hc), e75]
      unfold fX12_leastOf_L94 fX12_leastOf_L112 fX12_leastOf_L113
      rw [if_neg (by decide)]
      have hco : (if isX = 0 then k / 16 else k % 16) < 16 := by split <;> omega
      by_cases hle : a ≤ (if isX = 0 then k / 16 else k % 16)
      · rw [if_pos ((nI_leI (by omega) (by omega)).mpr hle)]
        refine nx a h1 (fun j hj hcj => ?_) (h3.imp_right fun ⟨j, u1, u2⟩ => ⟨j, by omega, u2⟩)
        by_cases ej : j = k
        · rw [ej]; exact hle
        · exact h2 j (by omega) hcj
      · rw [if_neg (fun q => hle ((nI_leI (by omega) (by omega)).mp q))]
        refine nx _ (by omega) (fun j hj hcj => ?_) (Or.inr ⟨k, by omega, hc, rfl⟩)
        by_cases ej : j = k
        · rw [ej]; exact Nat.le_refl _
        · exact Nat.le_trans (by omega) (h2 j (by omega) hcj)
    · rw [if_neg (show ¬ ((R (k / 16) ||| U (k / 16)) >>> (nI (k % 16) &&& 31)) &&& (1 : Int32) = 1 from fun q => hc ((Cel_b hxx hy).mpr q)), e75]
      unfold fX12_leastOf_L94 fX12_leastOf_L112 fX12_leastOf_L113
      rw [if_pos rfl]
      refine nx a h1 (fun j hj hcj => ?_) (h3.imp_right fun ⟨j, u1, u2⟩ => ⟨j, by omega, u2⟩)
      by_cases ej : j = k
      · rw [ej] at hcj
        exact absurd hcj hc
      · exact h2 j (by omega) hcj
