/-! THE REFERENCE compares drawings; works that meet -/
theorem q_al54 {fu p q a b a' b' : Nat} {S : SM} {R U R' U' : Nat → Int32} (hp : p < 30) (hq : q < 30) (hR : ∀ j, j < 16 → ar S 13 (16 * p + j) = R j) (hU : ∀ j, j < 16 → ar S 14 (16 * p + j) = U j) (hR' : ∀ j, j < 16 → ar S 13 (16 * q + j) = R' j) (hU' : ∀ j, j < 16 → ar S 14 (16 * q + j) = U' j) (ha : a < 16) (hb : b < 16) (ha' : a' < 16) (hb' : b' < 16) : ∀ (t i m : Nat) (x7 : Int32), i + t = 16 → TF x7 (∀ j, j < i → rcB R a b j = rcB R' a' b' j ∧ rcB U a b j = rcB U' a' b' j) → ∃ r, fX12_alike_L54 fu S (m + t + 1) (nI p) (nI q) (nI a) (nI b) (nI a') (nI b') x7 (nI i) = some r ∧ TF r (∀ j, j < 16 → rcB R a b j = rcB R' a' b' j ∧ rcB U a b j = rcB U' a' b' j) := by
  have stop : ∀ (i : Nat) (x7 : Int32), i ≤ 16 → 16 ≤ i + b → 16 ≤ i + b' → TF x7 (∀ j, j < i → rcB R a b j = rcB R' a' b' j ∧ rcB U a b j = rcB U' a' b' j) → TF x7 (∀ j, j < 16 → rcB R a b j = rcB R' a' b' j ∧ rcB U a b j = rcB U' a' b' j) := by
    intro i x7 h0 h1 h2 h
    refine h.cg ⟨fun q j hj => ?_, fun q j hj => q j (by omega)⟩
    by_cases e : j < i
    · exact q j e
    · unfold rcB
      rw [if_neg (by omega), if_neg (by omega), if_neg (by omega), if_neg (by omega)]
      exact ⟨rfl, rfl⟩
  intro t
  induction t with
  | zero =>
    intro i m x7 hi h
    have hi : i = 16 := hi
    subst hi
    refine ⟨x7, ?_, stop 16 x7 (by omega) (by omega) (by omega) h⟩
    show fX12_alike_L54b fu S (fX12_alike_L54 fu S m) (nI p) (nI q) (nI a) (nI b) (nI a') (nI b') x7 (nI 16) = _
    unfold fX12_alike_L54b
    rw [nI_add, nI_add, if_neg (show ¬ nI (16 + b) < (16 : Int32) from fun q => by have := (nI_ltI (by omega) (by omega : 16 < 2 ^ 31)).mp q; omega), if_pos (show (16 : Int32) ≤ nI (16 + b') from (nI_leI (by omega : 16 < 2 ^ 31) (by omega)).mpr (by omega)), if_pos (h.elim (fun q => Or.inr q.1) (fun q => Or.inl q.1))]
  | succ t ih =>
    intro i m x7 hi h
    have hi16 : i < 16 := by omega
    have s215 : ∀ (rec54 : Int32 → Int32 → Int32 → Int32 → Int32 → Int32 → Int32 → Int32 → Option Int32), fX12_alike_L215 fu S rec54 (nI p) (nI q) (nI a) (nI b) (nI a') (nI b') (nI i) = rec54 (nI p) (nI q) (nI a) (nI b) (nI a') (nI b') 0 (nI (i + 1)) := by
      intro rec54
      unfold fX12_alike_L215 fX12_alike_L216
      rw [nI_1]
    have s208 : ∀ (rec54 : Int32 → Int32 → Int32 → Int32 → Int32 → Int32 → Int32 → Int32 → Option Int32) (u v : Int32), fX12_alike_L208 fu S rec54 (nI p) (nI q) (nI a) (nI b) (nI a') (nI b') (nI i) u v = rec54 (nI p) (nI q) (nI a) (nI b) (nI a') (nI b') (if u = v then 1 else 0) (nI (i + 1)) := by
      intro rec54 u v
      unfold fX12_alike_L208
      by_cases e : u = v
      · rw [if_pos e, if_pos e]
        unfold fX12_alike_L216
        rw [nI_1]
      · rw [if_neg e, if_neg e, s215]
    have s179 : ∀ (rec54 : Int32 → Int32 → Int32 → Int32 → Int32 → Int32 → Int32 → Int32 → Option Int32) (u r r' : Int32), fX12_alike_L179 fu S rec54 (nI p) (nI q) (nI a) (nI b) (nI a') (nI b') (nI i) (nI (16 * q + b' + i)) u r r' = rec54 (nI p) (nI q) (nI a) (nI b) (nI a') (nI b') (if r = r' ∧ u = rcB U' a' b' i then 1 else 0) (nI (i + 1)) := by
      intro rec54 u r r'
      unfold fX12_alike_L179
      by_cases e : r = r'
      · rw [if_pos e, nI_add b' i, s208, s208]
        unfold rcB
        by_cases e2 : b' + i < 16
        · rw [if_neg (show ¬ (16 : Int32) ≤ nI (b' + i) from fun q => by have := (nI_leI (by omega : 16 < 2 ^ 31) (by omega)).mp q; omega), if_pos (inS_ok (by decide) rfl (by show 16 * q + b' + i < 480; omega) (by decide)), nI_clamp (by omega), Nat.add_assoc, hU' _ e2, if_pos e2]
          simp only [e, true_and]
        · rw [if_pos (show (16 : Int32) ≤ nI (b' + i) from (nI_leI (by omega : 16 < 2 ^ 31) (by omega)).mpr (by omega)), if_neg e2]
          simp only [e, true_and]
      · rw [if_neg e, s215, if_neg (fun q => e q.1)]
    have s146 : ∀ (rec54 : Int32 → Int32 → Int32 → Int32 → Int32 → Int32 → Int32 → Int32 → Option Int32) (r u : Int32), fX12_alike_L146 fu S rec54 (nI p) (nI q) (nI a) (nI b) (nI a') (nI b') x7 (nI i) (nI (16 * q + b' + i)) r u = rec54 (nI p) (nI q) (nI a) (nI b) (nI a') (nI b') (if x7 ≠ 0 ∧ r = rcB R' a' b' i ∧ u = rcB U' a' b' i then 1 else 0) (nI (i + 1)) := by
      intro rec54 r u
      unfold fX12_alike_L146
      by_cases e0 : x7 = 0
      · rw [if_pos e0, s215, if_neg (fun q => q.1 e0)]
      · rw [if_neg e0, nI_add b' i, s179, s179]
        have er : rcB R' a' b' i = if b' + i < 16 then R' (b' + i) >>> (nI a' &&& 31) else 0 := rfl
        rw [er]
        by_cases e2 : b' + i < 16
        · rw [if_neg (show ¬ (16 : Int32) ≤ nI (b' + i) from fun q => by have := (nI_leI (by omega : 16 < 2 ^ 31) (by omega)).mp q; omega), if_pos (inS_ok (by decide) rfl (by show 16 * q + b' + i < 480; omega) (by decide)), nI_clamp (by omega), Nat.add_assoc, hR' _ e2, if_pos e2]
          simp only [ne_eq, e0, not_false_eq_true, true_and]
        · rw [if_pos (show (16 : Int32) ≤ nI (b' + i) from (nI_leI (by omega : 16 < 2 ^ 31) (by omega)).mpr (by omega)), if_neg e2]
          simp only [ne_eq, e0, not_false_eq_true, true_and]
    have s121 : ∀ (rec54 : Int32 → Int32 → Int32 → Int32 → Int32 → Int32 → Int32 → Int32 → Option Int32) (r : Int32), fX12_alike_L121 fu S rec54 (nI p) (nI q) (nI a) (nI b) (nI a') (nI b') x7 (nI i) (nI (16 * p + b + i)) (nI (16 * q + b' + i)) r = rec54 (nI p) (nI q) (nI a) (nI b) (nI a') (nI b') (if x7 ≠ 0 ∧ r = rcB R' a' b' i ∧ rcB U a b i = rcB U' a' b' i then 1 else 0) (nI (i + 1)) := by
      intro rec54 r
      unfold fX12_alike_L121
      rw [nI_add b i, s146, s146]
      have er : rcB U a b i = if b + i < 16 then U (b + i) >>> (nI a &&& 31) else 0 := rfl
      rw [er]
      by_cases e2 : b + i < 16
      · rw [if_neg (show ¬ (16 : Int32) ≤ nI (b + i) from fun q => by have := (nI_leI (by omega : 16 < 2 ^ 31) (by omega)).mp q; omega), if_pos (inS_ok (by decide) rfl (by show 16 * p + b + i < 480; omega) (by decide)), nI_clamp (by omega), Nat.add_assoc (16 * p), hU _ e2, if_pos e2]
      · rw [if_pos (show (16 : Int32) ≤ nI (b + i) from (nI_leI (by omega : 16 < 2 ^ 31) (by omega)).mpr (by omega)), if_neg e2]
    have s74 : ∀ (rec54 : Int32 → Int32 → Int32 → Int32 → Int32 → Int32 → Int32 → Int32 → Option Int32), fX12_alike_L74 fu S rec54 (nI p) (nI q) (nI a) (nI b) (nI a') (nI b') x7 (nI i) = rec54 (nI p) (nI q) (nI a) (nI b) (nI a') (nI b') (if x7 ≠ 0 ∧ rcB R a b i = rcB R' a' b' i ∧ rcB U a b i = rcB U' a' b' i then 1 else 0) (nI (i + 1)) := by
      intro rec54
      unfold fX12_alike_L74
      rw [q_idx, q_idx, nI_add (16 * p + b) i, nI_add (16 * q + b') i, nI_add b i, s121, s121]
      have er : rcB R a b i = if b + i < 16 then R (b + i) >>> (nI a &&& 31) else 0 := rfl
      rw [er]
      by_cases e2 : b + i < 16
      · rw [if_neg (show ¬ (16 : Int32) ≤ nI (b + i) from fun q => by have := (nI_leI (by omega : 16 < 2 ^ 31) (by omega)).mp q; omega), if_pos (inS_ok (by decide) rfl (by show 16 * p + b + i < 480; omega) (by decide)), nI_clamp (by omega), Nat.add_assoc (16 * p), hR _ e2, if_pos e2]
      · rw [if_pos (show (16 : Int32) ≤ nI (b + i) from (nI_leI (by omega : 16 < 2 ^ 31) (by omega)).mpr (by omega)), if_neg e2]
    have go : ∃ r, fX12_alike_L74 fu S (fX12_alike_L54 fu S (m + t + 1)) (nI p) (nI q) (nI a) (nI b) (nI a') (nI b') x7 (nI i) = some r ∧ TF r (∀ j, j < 16 → rcB R a b j = rcB R' a' b' j ∧ rcB U a b j = rcB U' a' b' j) := by
      rw [s74]
      refine ih (i + 1) m _ (by omega) ?_
      by_cases e : rcB R a b i = rcB R' a' b' i ∧ rcB U a b i = rcB U' a' b' i
      · rcases h with ⟨h1, h2⟩ | ⟨h1, h2⟩
        · rw [if_pos ⟨by rw [h1]; decide, e⟩]
          refine Or.inl ⟨rfl, fun j hj => ?_⟩
          by_cases ej : j = i
          · rw [ej]; exact e
          · exact h2 j (by omega)
        · rw [if_neg (fun q => q.1 h1)]
          exact Or.inr ⟨rfl, fun q => h2 (fun j hj => q j (by omega))⟩
      · rw [if_neg (fun q => e q.2)]
        exact Or.inr ⟨rfl, fun q => e (q i (by omega))⟩
    show ∃ r, fX12_alike_L54b fu S (fX12_alike_L54 fu S (m + t + 1)) (nI p) (nI q) (nI a) (nI b) (nI a') (nI b') x7 (nI i) = some r ∧ _
    unfold fX12_alike_L54b
    rw [nI_add i b, nI_add i b']
    by_cases e : i + b < 16
    · rw [if_pos (show nI (i + b) < (16 : Int32) from (nI_ltI (by omega) (by omega : 16 < 2 ^ 31)).mpr e)]
      exact go
    · rw [if_neg (show ¬ nI (i + b) < (16 : Int32) from fun q => e ((nI_ltI (by omega) (by omega : 16 < 2 ^ 31)).mp q))]
      by_cases e2 : i + b' < 16
      · rw [if_neg (show ¬ (16 : Int32) ≤ nI (i + b') from fun q => by have := (nI_leI (by omega : 16 < 2 ^ 31) (by omega)).mp q; omega)]
        exact go
      · rw [if_pos (show (16 : Int32) ≤ nI (i + b') from (nI_leI (by omega : 16 < 2 ^ 31) (by omega)).mpr (by omega)), if_pos (h.elim (fun q => Or.inr q.1) (fun q => Or.inl q.1))]
        exact ⟨x7, rfl, stop i x7 (by omega) (by omega) (by omega) h⟩
/-- what the reference's state says of a program's drawing -/
def PDr (p k : Nat) (R U : Nat → Int32) (S : SM) : Prop := ar S 12 p = nI k ∧ (∀ j, j < 16 → ar S 13 (16 * p + j) = R j) ∧ ∀ j, j < 16 → ar S 14 (16 * p + j) = U j
theorem q_alike {fu p q n k a b c d n' k' a' b' c' d' : Nat} {K T V N K' T' V' N' : Nat → Int32} {S : SM} (hp : p < 30) (hq : q < 30) (hfu : 300 ≤ fu) (hB : PgB K T V N n k a b c d) (hB' : PgB K' T' V' N' n' k' a' b' c' d') (hD : PDr p k (cR (finB K T V N n)) (cU (finB K T V N n)) S) (hD' : PDr q k' (cR (finB K' T' V' N' n')) (cU (finB K' T' V' N' n')) S) : ∃ r, fX12_alike fu S (nI p) (nI q) = some r ∧ TF r (AlP k k' (cR (finB K T V N n)) (cU (finB K T V N n)) (cR (finB K' T' V' N' n')) (cU (finB K' T' V' N' n')) a b a' b') := by
  obtain ⟨l1, l2, l3, l4, l5, l6⟩ := hB.lim
  obtain ⟨m1, m2, m3, m4, m5, m6⟩ := hB'.lim
  have hk := hB.2.2.2.1
  have hk' := hB'.2.2.2.1
  unfold fX12_alike
  rw [if_pos (inS_ok (by decide) rfl hp (by decide)), if_pos (inS_ok (by decide) rfl hq (by decide)), nI_clamp (by omega), nI_clamp (by omega), hD.1, hD'.1]
  by_cases e : k = k'
  · obtain ⟨e1, e2⟩ := q_least (fu := fu) hp hfu hD.2.1 hD.2.2 hk hD.1 (fun z => ⟨(hB.2.2.2.2.1 z).1, (hB.2.2.2.2.1 z).2.1, (hB.2.2.2.2.1 z).2.2.1⟩) hB.2.2.2.2.2
    obtain ⟨e3, e4⟩ := q_least (fu := fu) hq hfu hD'.2.1 hD'.2.2 hk' hD'.1 (fun z => ⟨(hB'.2.2.2.2.1 z).1, (hB'.2.2.2.2.1 z).2.1, (hB'.2.2.2.2.1 z).2.2.1⟩) hB'.2.2.2.2.2
    rw [if_pos (by rw [e]), e1, bi_some, e2, bi_some, e3, bi_some, e4, bi_some]
    obtain ⟨r, w1, w2⟩ := q_al54 (fu := fu) hp hq hD.2.1 hD.2.2 hD'.2.1 hD'.2.2 l1 l2 m1 m2 16 0 (fu - 17) 1 rfl (Or.inl ⟨rfl, fun j hj => absurd hj (Nat.not_lt_zero j)⟩)
    rw [show fu - 17 + 16 + 1 = fu by omega] at w1
    exact ⟨r, w1, w2.cg ⟨fun z => ⟨e, z⟩, fun z => z.2⟩⟩
  · rw [if_neg (fun w => e ((nI_eq (by omega) (by omega)).mp w))]
    exact ⟨0, rfl, Or.inr ⟨rfl, fun w => e w.1⟩⟩
theorem q_doesMeet {fu w p e q n cc : Nat} {f mo ms : Int32} {A : Prop} {S : SM} (hw : w < 24) (hp : p < 30) (he : e < 6) (h1 : ar S 26 w = nI p) (h2 : ar S 27 w = nI e) (h3 : ar S 10 p = f) (h4 : ar S 5 p = nI n) (h5 : ar S 24 e = mo) (h6 : ar S 25 e = ms) (h7 : ar S 11 p = nI cc) (h8 : ar S 23 e = nI q) (hA : ∃ r, fX12_alike fu S (nI p) (nI q) = some r ∧ TF r A) : ∃ r, fX12_doesMeet fu S (nI w) = some r ∧ TF r (f = 0 ∧ nI n ≤ mo ∧ nI cc ≤ ms ∧ A) := by
  have ip : ∀ r9, (r9 = 10 ∨ r9 = 5 ∨ r9 = 11) → inS 0 r9 (nI p) = true := by
    rintro r9 (e | e | e) <;> subst e <;> exact inS_ok (by decide) rfl hp (by decide)
  have ie : ∀ r9, (r9 = 23 ∨ r9 = 24 ∨ r9 = 25) → inS 0 r9 (nI e) = true := by
    rintro r9 (z | z | z) <;> subst z <;> exact inS_ok (by decide) rfl he (by decide)
  unfold fX12_doesMeet fX12_doesMeet_L57
  rw [if_pos (inS_ok (by decide) rfl hw (by decide)), if_pos (inS_ok (by decide) rfl hw (by decide)), nI_clamp (show w < 2 ^ 31 by omega), h1, h2, if_pos (ip 10 (by omega)), nI_clamp (show p < 2 ^ 31 by omega), nI_clamp (show e < 2 ^ 31 by omega), h3, h4, h5, h6, h7, if_pos (ip 5 (by omega)), if_pos (ie 24 (by omega)), if_pos (ip 11 (by omega)), if_pos (ie 25 (by omega))]
  have z58 : ∀ r, fX12_doesMeet_L58 fu S (nI p) (nI e) r = if r = 0 then some 0 else Option.bind (fX12_alike fu S (nI p) (nI q)) fun v73 => (if v73 = 0 then (some (0 : Int32)) else (some (1 : Int32))) := by
    intro r
    unfold fX12_doesMeet_L58
    rw [if_pos (ie 23 (by omega)), nI_clamp (show e < 2 ^ 31 by omega), h8]
  have z0 : fX12_doesMeet_L58 fu S (nI p) (nI e) 0 = some 0 := (z58 0).trans (if_pos rfl)
  have z1 : fX12_doesMeet_L58 fu S (nI p) (nI e) 1 = Option.bind (fX12_alike fu S (nI p) (nI q)) fun v73 => (if v73 = 0 then (some (0 : Int32)) else (some (1 : Int32))) := (z58 1).trans (if_neg (by decide))
  rw [z0, z1]
  obtain ⟨r, w1, w2⟩ := hA
  rw [w1, bi_some]
  by_cases c1 : f = 0
  · rw [if_pos c1]
    by_cases c2 : nI n ≤ mo
    · rw [if_neg (Int32.not_lt.mpr c2)]
      by_cases c3 : nI cc ≤ ms
      · rw [if_neg (Int32.not_lt.mpr c3)]
        rcases w2 with ⟨rfl, w2⟩ | ⟨rfl, w2⟩
        · exact ⟨1, if_neg (by decide), Or.inl ⟨rfl, c1, c2, c3, w2⟩⟩
        · exact ⟨0, if_pos rfl, Or.inr ⟨rfl, fun q => w2 q.2.2.2⟩⟩
      · rw [if_pos (Int32.not_le.mp c3)]
        exact ⟨0, rfl, Or.inr ⟨rfl, fun q => c3 q.2.2.1⟩⟩
    · rw [if_pos (Int32.not_le.mp c2)]
      exact ⟨0, rfl, Or.inr ⟨rfl, fun q => c2 q.2.1⟩⟩
  · rw [if_neg c1]
    exact ⟨0, rfl, Or.inr ⟨rfl, fun q => c1 q.1⟩⟩
theorem c_meets {fu w e pr pw dr dw n cc : Nat} {f mo ms : Int32} {A : Prop} {X : Mem} (h1 : mK X w = some (10, 0)) (h2 : mR X 1001 w = some e) (h3 : mK X e = some (3, 0)) (h4 : mR X 1000 w = some pr) (h5 : mK X pr = some (5, 0)) (h6 : mI X 506 pr = f) (h7 : fX5_length X pr = some (nI n)) (h8 : mI X 301 e = mo) (h9 : mI X 302 e = ms) (h10 : mI X 507 pr = nI cc) (h11 : mR X 300 e = some pw) (h12 : mK X pw = some (5, 0)) (h13 : mR X 505 pr = some dr) (h14 : mK X dr = some (2, 0)) (h15 : mR X 505 pw = some dw) (hA : ∃ r, fX2_isShiftOf fu X dr (some dw) = some r ∧ TF r A) : ∃ r, fX10_meetsExercise fu X w = some r ∧ TF r (f = 0 ∧ nI n ≤ mo ∧ nI cc ≤ ms ∧ A) := by
  obtain ⟨r, w1, w2⟩ := hA
  have key : ∃ r, fX3_isMetBy fu X e (some pr) = some r ∧ TF r (f = 0 ∧ nI n ≤ mo ∧ nI cc ≤ ms ∧ A) := by
    unfold fX3_isMetBy
    rw [bi_some, if_pos h5, h6, h7, bi_some, if_pos h3, h8, h9, h10, h11, bi_some, if_pos h12, h13, bi_some, if_pos h14, h15, w1, bi_some]
    by_cases c1 : f = 0
    · rw [if_pos c1]
      by_cases c2 : nI n ≤ mo
      · rw [if_neg (Int32.not_lt.mpr c2)]
        by_cases c3 : nI cc ≤ ms
        · rw [if_neg (Int32.not_lt.mpr c3)]
          rcases w2 with ⟨rfl, w2⟩ | ⟨rfl, w2⟩
          · exact ⟨1, if_neg (by decide), Or.inl ⟨rfl, c1, c2, c3, w2⟩⟩
          · exact ⟨0, if_pos rfl, Or.inr ⟨rfl, fun q => w2 q.2.2.2⟩⟩
        · rw [if_pos (Int32.not_le.mp c3)]
          exact ⟨0, rfl, Or.inr ⟨rfl, fun q => c3 q.2.2.1⟩⟩
      · rw [if_pos (Int32.not_le.mp c2)]
        exact ⟨0, rfl, Or.inr ⟨rfl, fun q => c2 q.2.1⟩⟩
    · rw [if_neg c1]
      exact ⟨0, rfl, Or.inr ⟨rfl, fun q => c1 q.1⟩⟩
  obtain ⟨r9, k1, k2⟩ := key
  unfold fX10_meetsExercise
  rw [if_pos h1, h2, bi_some, if_pos h3, h4, k1, bi_some, if_pos (k2.elim (fun q => Or.inr q.1) (fun q => Or.inl q.1))]
  exact ⟨r9, rfl, k2⟩
