/-! THE REFERENCE's WALL -/
theorem al_ul {S : SM} {r i r' i' : Nat} {v : Int64} : al (ul S r i v) r' i' = if r' = r ∧ i' = i then v else al S r' i' := rfl
theorem r_free40 {fu w h x y : Nat} {S : SM} {rows : Nat → Int64} (hw : w < 18) (hx : x + w < 64) (hy : y + h ≤ 40) (hr : ∀ r, r < 40 → al S 29 r = rows r) : ∀ (t r m : Nat), r + t = y + h → ∃ v, fX12_isFree_L40 fu S (m + t + 1) (nI y) (nI h) (shB (maskB w) x) 1 (nI r) = some v ∧ TF v (∀ r', r ≤ r' → r' < y + h → FrRow (rows r') x w) := by
  intro t
  induction t with
  | zero =>
    intro r m hr9
    have hr9 : r = y + h := hr9
    refine ⟨1, ?_, Or.inl ⟨rfl, fun r' a b => by omega⟩⟩
    show fX12_isFree_L40b fu S (fX12_isFree_L40 fu S m) (nI y) (nI h) (shB (maskB w) x) 1 (nI r) = _
    unfold fX12_isFree_L40b
    rw [nI_add, hr9, if_pos (Int32.le_refl _), if_pos (Or.inr rfl)]
  | succ t ih =>
    intro r m hr9
    show ∃ v, fX12_isFree_L40b fu S (fX12_isFree_L40 fu S (m + t + 1)) (nI y) (nI h) (shB (maskB w) x) 1 (nI r) = some v ∧ _
    unfold fX12_isFree_L40b fX12_isFree_L74
    rw [nI_add, if_neg (fun q => by have := (nI_leI (by omega) (by omega)).mp q; omega), if_neg (by decide), if_pos (inS_ok (by decide) rfl (by show r < 40; omega) (by decide)), nI_clamp (by omega), hr r (by omega), nI_1]
    have hc : lg_cmp ((rows r) &&& shB (maskB w) x) 0 = 0 ↔ FrRow (rows r) x w := (lg_cmp_eq _ _).trans (fr_and hw hx)
    by_cases e : FrRow (rows r) x w
    · obtain ⟨v, z1, z2⟩ := ih (r + 1) m (by omega)
      refine ⟨v, (if_pos (hc.mpr e)).trans z1, z2.cg ⟨fun q r' a b => ?_, fun q r' a b => q r' (by omega) b⟩⟩
      by_cases er : r' = r
      · rw [er]; exact e
      · exact q r' (by omega) b
    · refine ⟨0, (if_neg (fun q => e (hc.mp q))).trans ?_, Or.inr ⟨rfl, fun q => e (q r (Nat.le_refl r) (by omega))⟩⟩
      show fX12_isFree_L40b fu S (fX12_isFree_L40 fu S (m + t)) (nI y) (nI h) (shB (maskB w) x) 0 (nI (r + 1)) = _
      unfold fX12_isFree_L40b
      rw [if_pos (show (0 : Int32) = 0 ∨ (0 : Int32) = 1 from Or.inl rfl)]
      split
      · rfl
      · rw [if_pos rfl]
theorem r_free0 {fu : Nat} {S : SM} {y h : Int32} {c : Int64} (hfu : 1 ≤ fu) : fX12_isFree_L34 fu S y h c = some 0 := by
  obtain ⟨f, rfl⟩ : ∃ f, fu = f + 1 := ⟨fu - 1, by omega⟩
  unfold fX12_isFree_L34 fX12_isFree_L35
  show fX12_isFree_L40b (f + 1) S (fX12_isFree_L40 (f + 1) S f) y h c 0 y = _
  unfold fX12_isFree_L40b
  rw [if_pos (show (0 : Int32) = 0 ∨ (0 : Int32) = 1 from Or.inl rfl)]
  split
  · rfl
  · rw [if_pos rfl]
theorem r_isFree {fu W H w h x y : Nat} {S : SM} {rows : Nat → Int64} (hfu : 100 ≤ fu) (hw : w < 18) (hh : h < 18) (hW : W ≤ 40) (hH : H ≤ 40) (hx : x < 40) (hy : y < 40) (h1 : sc S 45 = nI W) (h2 : sc S 46 = nI H) (hr : ∀ r, r < 40 → al S 29 r = rows r) : ∃ v, fX12_isFree fu S (nI x) (nI y) (nI w) (nI h) = some v ∧ TF v (FitP rows W H w h x y) := by
  unfold fX12_isFree
  rw [h1, h2, nI_add, nI_add, r_free0 (by omega)]
  by_cases e1 : W < x + w
  · rw [if_pos ((nI_ltI (by omega) (by omega)).mpr e1)]
    exact ⟨0, rfl, Or.inr ⟨rfl, fun q => by have := q.1; omega⟩⟩
  · rw [if_neg (fun q => e1 ((nI_ltI (by omega) (by omega)).mp q))]
    by_cases e2 : H < y + h
    · rw [if_pos ((nI_ltI (by omega) (by omega)).mpr e2)]
      exact ⟨0, rfl, Or.inr ⟨rfl, fun q => by have := q.2.1; omega⟩⟩
    · rw [if_neg (fun q => e2 ((nI_ltI (by omega) (by omega)).mp q))]
      obtain ⟨v, z1, z2⟩ := r_free40 (fu := fu) (h := h) (y := y) hw (by omega : x + w < 64) (by omega) hr h y (fu - h - 1) rfl
      rw [show fu - h - 1 + h + 1 = fu by omega] at z1
      exact ⟨v, z1, z2.cg ⟨fun q => ⟨by omega, by omega, fun r a b => q r a b⟩, fun q r a b => q.2.2 r a b⟩⟩
def plc (W : Nat) (o : Option Nat) : Int32 := match o with
  | none => -1
  | some k => nI (100 * (k % W) + k / W)
theorem r_put {fu W w h k : Nat} {i : Int32} {rec55 : SM → Int32 → Int32 → Int32 → Int32 → Option SM} (hW0 : 0 < W) (hW : W ≤ 40) (hk : k < 1600) (hy : k / W + h ≤ 40) : ∀ (t r m : Nat) (S : SM), r + t = k / W + h → sc S 45 = nI W → ∃ S', fX12_hangsOne_L135 fu rec55 (m + t + 1) S i (nI w) (nI h) (nI k) (nI r) = rec55 S' i (nI w) (nI h) (nI (k + 1)) ∧ sc S' = sc S ∧ ar S' = ar S ∧ ∀ r', al S' 29 r' = if r ≤ r' ∧ r' < k / W + h then al S 29 r' ||| shB (maskB w) (k % W) else al S 29 r' := by
  have ed : nI k / nI W = nI (k / W) := pk_div (by omega) hW0 (by omega)
  have em : nI k - nI k / nI W * nI W = nI (k % W) := pk_rem (by omega) hW0 (by omega)
  intro t
  induction t with
  | zero =>
    intro r m S hr h1
    have hr : r = k / W + h := hr
    refine ⟨S, ?_, rfl, rfl, fun r' => by rw [if_neg (by omega)]⟩
    show fX12_hangsOne_L135b fu rec55 (fX12_hangsOne_L135 fu rec55 m) S i (nI w) (nI h) (nI k) (nI r) = _
    unfold fX12_hangsOne_L135b fX12_hangsOne_L178
    rw [h1, if_neg (nI_ne0 hW0 (by omega)), ed, nI_add, hr, if_pos (Int32.le_refl _), nI_1]
  | succ t ih =>
    intro r m S hr h1
    show ∃ S', fX12_hangsOne_L135b fu rec55 (fX12_hangsOne_L135 fu rec55 (m + t + 1)) S i (nI w) (nI h) (nI k) (nI r) = _ ∧ _
    unfold fX12_hangsOne_L135b
    have i29 : inS 2 29 (nI r) = true := inS_ok (by decide) rfl (by show r < 40; omega) (by decide)
    rw [h1, if_neg (nI_ne0 hW0 (by omega)), em, ed, nI_add, if_neg (fun q => by have := (nI_leI (by omega) (by omega)).mp q; omega), if_pos i29, if_neg (nI_ne0 hW0 (by omega)), if_pos i29, nI_clamp (by omega), nI_1]
    obtain ⟨S', z1, z2, z3, z4⟩ := ih (r + 1) m (ul S 29 r (al S 29 r ||| shB (maskB w) (k % W))) (by omega) h1
    refine ⟨S', z1, z2, z3, fun r' => ?_⟩
    rw [z4, al_ul]
    by_cases e : r' = r
    · rw [if_neg (by omega), if_pos ⟨rfl, e⟩, if_pos (by omega), e]
    · rw [if_neg (show ¬ (29 = 29 ∧ r' = r) from fun q => e q.2)]
      by_cases e2 : r + 1 ≤ r' ∧ r' < k / W + h
      · rw [if_pos e2, if_pos (by omega)]
      · rw [if_neg e2, if_neg (by omega)]
/-- hanging all leaves all but this -/
def HF (S S' : SM) : Prop := sc S' = sc S ∧ ∀ r, r ≠ 19 → r ≠ 20 → r ≠ 21 → r ≠ 30 → ar S' r = ar S r
theorem HF.rfl9 {S : SM} : HF S S := ⟨rfl, fun _ _ _ _ _ => rfl⟩
theorem HF.trans {a b c : SM} (h : HF a b) (k : HF b c) : HF a c := ⟨k.1.trans h.1, fun r a1 a2 a3 a4 => (k.2 r a1 a2 a3 a4).trans (h.2 r a1 a2 a3 a4)⟩
theorem HF.ua {S : SM} {i : Nat} {v : Int32} : HF S (ua S 30 i v) := ⟨rfl, fun r _ _ _ h => funext fun j => if_neg (fun q => h q.1)⟩
theorem HF.ul {S : SM} {r i : Nat} {v : Int64} : HF S (ul S r i v) := ⟨rfl, fun _ _ _ _ _ => rfl⟩
theorem LF.hf {S S' : SM} (h : LF S S') : HF S S' := ⟨h.1, fun r a b c _ => h.2.1 r a b c⟩
theorem r_hang55 {fu W H w h i : Nat} {rows : Nat → Int64} (hfu : 2000 ≤ fu) (hw : w < 18) (hh : h < 18) (hh0 : 0 < h) (hW0 : 0 < W) (hW : W ≤ 40) (hH : H ≤ 40) (hi : i < 24) : ∀ (t k m : Nat) (S : SM), k + t = W * H → sc S 45 = nI W → sc S 46 = nI H → (∀ r, r < 40 → al S 29 r = rows r) → ar S 30 i = -1 → (∀ j, j < k → ¬ FitK rows W H w h j) →
    ∃ o S', fX12_hangsOne_L55 fu (m + t + 2) S (nI i) (nI w) (nI h) (nI k) = some S' ∧ FF (FitK rows W H w h) (W * H) o ∧ sc S' = sc S ∧ (∀ r j, (r ≠ 30 ∨ j ≠ i) → ar S' r j = ar S r j) ∧ ar S' 30 i = plc W o ∧ ∀ r, r < 40 → al S' 29 r = hangR W w h rows o r := by
  have hWH : W * H ≤ 1600 := Nat.mul_le_mul hW hH
  have i30 : inS 0 30 (nI i) = true := inS_ok (by decide) rfl hi (by decide)
  intro t
  induction t with
  | zero =>
    intro k m S hk h1 h2 hr h3 hn
    have hk : k = W * H := hk
    subst hk
    refine ⟨none, S, ?_, hn, rfl, fun _ _ _ => rfl, h3, hr⟩
    show fX12_hangsOne_L55b fu (fX12_hangsOne_L55 fu (m + 1)) S (nI i) (nI w) (nI h) (nI (W * H)) = _
    unfold fX12_hangsOne_L55b
    rw [h1, h2, pk_mul, if_pos (Int32.le_refl _)]
  | succ t ih =>
    intro k m S hk h1 h2 hr h3 hn
    have hkl : k < W * H := by omega
    have hx : k % W < W := Nat.mod_lt _ hW0
    have hy : k / W < H := Nat.div_lt_of_lt_mul hkl
    have ed : nI k / nI W = nI (k / W) := pk_div (by omega) hW0 (by omega)
    have em : nI k - nI k / nI W * nI W = nI (k % W) := pk_rem (by omega) hW0 (by omega)
    have e100 : (100 : Int32) * nI (k % W) + nI (k / W) = nI (100 * (k % W) + k / W) := by
      rw [show (100 : Int32) = nI 100 from rfl, pk_mul, nI_add]
    obtain ⟨v, v1, v2⟩ := r_isFree (fu := fu) (by omega) hw hh hW hH (by omega : k % W < 40) (by omega : k / W < 40) h1 h2 hr
    show ∃ o S', fX12_hangsOne_L55b fu (fX12_hangsOne_L55 fu (m + t + 2)) S (nI i) (nI w) (nI h) (nI k) = some S' ∧ _
    unfold fX12_hangsOne_L55b fX12_hangsOne_L178
    have hs : ∀ v, sc (ua S 30 i v) 45 = nI W := fun v => h1
    rw [h1, h2, pk_mul, if_neg (fun q => by have := (nI_leI (by omega) (by omega)).mp q; omega), if_pos i30, nI_clamp (show i < 2 ^ 31 by omega), h3, if_pos rfl, if_neg (nI_ne0 hW0 (by omega)), if_neg (nI_ne0 hW0 (by omega)), em, ed, v1, bi_some]
    rcases v2 with ⟨rfl, v2⟩ | ⟨rfl, v2⟩
    · rw [if_neg (by decide), if_neg (nI_ne0 hW0 (by omega)), if_neg (nI_ne0 hW0 (by omega)), if_pos i30, e100, hs, if_neg (nI_ne0 hW0 (by omega)), ed]
      have hfit := v2.2.1
      obtain ⟨S1, z1, z2, z3, z4⟩ := r_put (fu := fu) (w := w) (h := h) (i := nI i) (rec55 := fX12_hangsOne_L55 fu (m + t + 2)) hW0 hW (by omega : k < 1600) (by omega) h (k / W) (fu - h - 1) (ua S 30 i (nI (100 * (k % W) + k / W))) rfl (hs _)
      rw [show fu - h - 1 + h + 1 = fu by omega] at z1
      have a30 : ar S1 30 i = nI (100 * (k % W) + k / W) := by
        rw [z3, ar_ua, if_pos ⟨rfl, rfl⟩]
      have ne1 : ¬ nI (100 * (k % W) + k / W) = -1 := nI_nm1 (by omega)
      refine ⟨some k, S1, ?_, ⟨hkl, v2, hn⟩, z2, fun r j hj => ?_, a30, fun r hr9 => ?_⟩
      · rw [z1]
        show fX12_hangsOne_L55b fu (fX12_hangsOne_L55 fu (m + t + 1)) S1 (nI i) (nI w) (nI h) (nI (k + 1)) = _
        unfold fX12_hangsOne_L55b
        by_cases e9 : sc S1 45 * sc S1 46 ≤ nI (k + 1)
        · rw [if_pos e9]
        · rw [if_neg e9, if_pos i30, nI_clamp (show i < 2 ^ 31 by omega), a30, if_neg ne1]
      · rw [z3, ar_ua, if_neg (fun q => hj.elim (fun z => z q.1) (fun z => z q.2))]
      · rw [z4]
        show (if k / W ≤ r ∧ r < k / W + h then al S 29 r ||| _ else al S 29 r) = putK rows W w h k r
        unfold putK
        rw [hr r hr9]
    · rw [if_pos rfl, nI_1]
      refine ih (k + 1) m S (by omega) h1 h2 hr h3 (fun j hj q => ?_)
      by_cases e : j = k
      · rw [e] at q; exact v2 q
      · exact hn j (by omega) q
theorem r_hangsOne {fu W H i p a b c d : Nat} {S : SM} {rows : Nat → Int64} (hfu : 5000 ≤ fu) (hW0 : 0 < W) (hW : W ≤ 40) (hH : H ≤ 40) (hi : i < 24) (hl : a ≤ c ∧ b ≤ d ∧ c ≤ 16 ∧ d ≤ 16) (h1 : sc S 45 = nI W) (h2 : sc S 46 = nI H) (h3 : ar S 26 i = nI p) (h4 : ar S 30 i = -1) (hr : ∀ r, r < 40 → al S 29 r = rows r) (g1 : fX12_greatestOf fu S (nI p) 1 = some (nI c)) (g2 : fX12_leastOf fu S (nI p) 1 = some (nI a)) (g3 : fX12_greatestOf fu S (nI p) 0 = some (nI d)) (g4 : fX12_leastOf fu S (nI p) 0 = some (nI b)) :
    ∃ o S', fX12_hangsOne fu S (nI i) = some S' ∧ FF (FitK rows W H (c - a + 1) (d - b + 1)) (W * H) o ∧ sc S' = sc S ∧ (∀ r j, (r ≠ 30 ∨ j ≠ i) → ar S' r j = ar S r j) ∧ ar S' 30 i = plc W o ∧ ∀ r, r < 40 → al S' 29 r = hangR W (c - a + 1) (d - b + 1) rows o r := by
  have i26 : inS 0 26 (nI i) = true := inS_ok (by decide) rfl hi (by decide)
  have hWH : W * H ≤ 1600 := Nat.mul_le_mul hW hH
  unfold fX12_hangsOne
  rw [if_pos i26, nI_clamp (show i < 2 ^ 31 by omega), h3, g1, bi_some, if_pos i26, g2, bi_some, if_pos i26, g3, bi_some, if_pos i26, g4, bi_some, pk_sub hl.1, pk_sub hl.2.1, nI_1, nI_1]
  have k := r_hang55 (fu := fu) (w := c - a + 1) (h := d - b + 1) (i := i) (rows := rows) (by omega) (by omega) (by omega) (by omega) hW0 hW hH hi (W * H) 0 (fu - W * H - 2) S (by omega) h1 h2 hr h4 (fun j hj => absurd hj (Nat.not_lt_zero j))
  rw [show fu - W * H - 2 + W * H + 2 = fu by omega] at k
  exact k
/-! copies -/
def OrgP (cp : Nat → Prop) (j w : Nat) : Option Nat → Prop
  | none => ∀ v, j ≤ v → v < w → ¬ cp v
  | some v => j ≤ v ∧ v < w ∧ cp v ∧ ∀ u, j ≤ u → u < v → ¬ cp u
theorem OrgP_un {cp : Nat → Prop} {j w : Nat} {a b : Option Nat} (h : OrgP cp j w a) (k : OrgP cp j w b) : a = b := by
  cases a with
  | none =>
    cases b with
    | none => rfl
    | some b => exact absurd k.2.2.1 (h b k.1 k.2.1)
  | some a =>
    cases b with
    | none => exact absurd h.2.2.1 (k a h.1 h.2.1)
    | some b =>
      rcases Nat.lt_trichotomy a b with q | q | q
      · exact absurd h.2.2.1 (k.2.2.2 a h.1 q)
      · rw [q]
      · exact absurd k.2.2.1 (h.2.2.2 b k.1 q)
