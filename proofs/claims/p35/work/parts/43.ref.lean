/-! THE REFERENCE's RUN is the machine's: the core -/
theorem sc_uc {S : SM} {k j : Nat} {v : Int32} : sc (uc S k v) j = if j = k then v else sc S j := rfl
theorem sc_ua {S : SM} {r i j : Nat} {v : Int32} : sc (ua S r i v) j = sc S j := rfl
theorem sc_ul {S : SM} {r i j : Nat} {v : Int64} : sc (ul S r i v) j = sc S j := rfl
theorem ar_uc {S : SM} {k r i : Nat} {v : Int32} : ar (uc S k v) r i = ar S r i := rfl
theorem ar_ul {S : SM} {k r i j : Nat} {v : Int64} : ar (ul S k j v) r i = ar S r i := rfl
theorem ar_ua {S : SM} {r i r' i' : Nat} {v : Int32} : ar (ua S r i v) r' i' = if r' = r ∧ i' = i then v else ar S r' i' := rfl
theorem al_uc {S : SM} {k : Nat} {v : Int32} : al (uc S k v) = al S := rfl
theorem al_ua {S : SM} {r i : Nat} {v : Int32} : al (ua S r i v) = al S := rfl
theorem bW_some {α β γ : Type} {a : α} {b : β} {k : α → β → Option γ} : bW (some (a, b)) k = k a b := rfl
theorem bi_some {α β : Type} {a : α} {k : α → Option β} : Option.bind (some a) k = k a := rfl
theorem inS_ok {t r j : Nat} (hr : r < 31) (hk : (akind r).1 = 20 + t) (hj : j < (akind r).2) (h2 : (akind r).2 < 2 ^ 31) : inS t r (nI j) = true := by
  have hj2 : j < 2 ^ 31 := by omega
  unfold inS
  rw [nI_clamp hj2]
  simp [hr, hk, hj, nI_pos hj2]
theorem or_z (x : Int32) : x ||| 0 = x := by
  apply Int32.toBitVec_inj.mp
  simp
theorem onG_of {v : Int32} (h : onG v) : ∃ j : Nat, j < 16 ∧ v = nI j := by
  obtain ⟨j, hj, e⟩ := nI_of2 (M := 15) (n := 15) rfl (fun q => Int32.lt_irrefl (Int32.lt_of_lt_of_le q h.1)) h.2
  exact ⟨j, by omega, e⟩
theorem onG_nI {j : Nat} (h : j < 16) : onG (nI j) := ⟨nI_pos' (by omega), (nI_leI (by omega) (by decide : 15 < 2 ^ 31)).mpr (by omega)⟩
theorem minB_n {a b : Nat} (ha : a < 16) (hb : b < 16) : ∃ m, m < 16 ∧ minB (nI a) (nI b) = nI m := by
  unfold minB
  split
  · exact ⟨b, hb, rfl⟩
  · exact ⟨a, ha, rfl⟩
theorem minB_le {a b : Int32} {α : Type} (F : Int32 → α) : (if a ≤ b then F a else F b) = F (minB a b) := by
  unfold minB
  by_cases h : a ≤ b
  · rw [if_pos h, if_neg (Int32.not_lt.mpr h)]
  · rw [if_neg h, if_pos (Int32.not_le.mp h)]
/-- the core of the run in the reference's state -/
def QC (p : Nat) (S : SM) (s : Cor) : Prop := match s with
  | (x, y, h, d, f, c, nm, R, U, sa) => sc S 21 = x ∧ sc S 22 = y ∧ sc S 23 = h ∧ sc S 24 = d ∧ sc S 26 = f ∧ sc S 25 = nI c ∧ (∀ j, j < 4 → ar S 15 j = nm j) ∧ (∀ j, j < 16 → ar S 13 (16 * p + j) = R j) ∧ (∀ j, j < 16 → ar S 14 (16 * p + j) = U j) ∧ ∀ j, j ≤ c → ar S 18 j = sa j
/-- what the core's steps leave -/
def GF (p : Nat) (S S' : SM) : Prop := (∀ k, k < 21 ∨ 26 < k → sc S' k = sc S k) ∧ (∀ r, r ≠ 13 → r ≠ 14 → r ≠ 15 → r ≠ 18 → ar S' r = ar S r) ∧ (∀ a, a < 16 * p ∨ 16 * p + 16 ≤ a → ar S' 13 a = ar S 13 a ∧ ar S' 14 a = ar S 14 a) ∧ al S' = al S
theorem GF.rfl9 {p : Nat} {S : SM} : GF p S S := ⟨fun _ _ => rfl, fun _ _ _ _ _ => rfl, fun _ _ => ⟨rfl, rfl⟩, rfl⟩
theorem GF.trans {p : Nat} {a b c : SM} (h : GF p a b) (k : GF p b c) : GF p a c := ⟨fun i hi => (k.1 i hi).trans (h.1 i hi), fun r a1 a2 a3 a4 => (k.2.1 r a1 a2 a3 a4).trans (h.2.1 r a1 a2 a3 a4), fun a ha => ⟨(k.2.2.1 a ha).1.trans (h.2.2.1 a ha).1, (k.2.2.1 a ha).2.trans (h.2.2.1 a ha).2⟩, k.2.2.2.trans h.2.2.2⟩
theorem GF.uc {p k : Nat} {S : SM} {v : Int32} (h : 21 ≤ k ∧ k ≤ 26) : GF p S (uc S k v) := ⟨fun i hi => if_neg (by omega), fun _ _ _ _ _ => rfl, fun _ _ => ⟨rfl, rfl⟩, rfl⟩
theorem GF.ua {p r i : Nat} {S : SM} {v : Int32} (h : r = 15 ∨ r = 18 ∨ ((r = 13 ∨ r = 14) ∧ 16 * p ≤ i ∧ i < 16 * p + 16)) : GF p S (ua S r i v) := ⟨fun i hi => rfl, fun r' a1 a2 a3 a4 => funext fun j => if_neg (fun q => by omega), fun a ha => ⟨if_neg (fun q => by omega), if_neg (fun q => by omega)⟩, rfl⟩
theorem q_counts {p : Nat} {S : SM} {s : Cor} (hQ : QC p S s) (hc : cC s ≤ 600) : (cC s = 600 → fX12_counts S = some (0, uc S 26 1) ∧ QC p (uc S 26 1) (fltB 1 s) ∧ GF p S (uc S 26 1)) ∧ (cC s ≠ 600 → ∃ S', fX12_counts S = some (1, S') ∧ QC p S' (cntB s) ∧ GF p S S') := by
  obtain ⟨x, y, h, d, f, c, nm, R, U, sa⟩ := s
  obtain ⟨q1, q2, q3, q4, q5, q6, q7, q8, q9, q10⟩ := hQ
  have hc : c ≤ 600 := hc
  refine ⟨fun e => ?_, fun e => ?_⟩
  · have e : c = 600 := e
    refine ⟨?_, ⟨q1, q2, q3, q4, rfl, q6, q7, q8, q9, q10⟩, GF.uc (by omega)⟩
    unfold fX12_counts
    rw [if_pos (by rw [q6, e]; rfl)]
  · have e : c ≠ 600 := e
    have h1 : sc (uc S 25 (sc S 25 + 1)) 25 = nI (c + 1) := by
      rw [sc_uc, if_pos rfl, q6, nI_1]
    unfold fX12_counts
    rw [if_neg (by rw [q6]; exact fun q => e ((nI_eq (by omega) (by omega : 600 < 2 ^ 31)).mp q)), h1, nI_pred, if_pos (inS_ok (by decide) rfl (by show c < 601; omega) (by decide)), if_pos (inS_ok (by decide) rfl (by show c + 1 < 601; omega) (by decide)), nI_clamp (by omega), nI_clamp (by omega)]
    refine ⟨_, rfl, ⟨q1, q2, q3, q4, q5, ?_, q7, q8, q9, fun j hj => ?_⟩, (GF.uc (by omega)).trans (GF.ua (Or.inr (Or.inl rfl)))⟩
    · exact h1
    · show (if 18 = 18 ∧ j = c + 1 then ar S 18 c else ar S 18 j) = (if j = c + 1 then sa c else sa j)
      have hj : j ≤ c + 1 := hj
      by_cases e9 : j = c + 1
      · rw [if_pos ⟨rfl, e9⟩, if_pos e9, q10 c (Nat.le_refl _)]
      · rw [if_neg (fun q => e9 q.2), if_neg e9, q10 j (by omega)]
theorem q_isIn {S : SM} {v a b : Int32} : fX12_isIn S v a b = some (if a ≤ v ∧ v ≤ b then 1 else 0) := by
  unfold fX12_isIn
  by_cases h1 : v < a
  · rw [if_pos h1, if_neg (fun q => Int32.lt_irrefl (Int32.lt_of_lt_of_le h1 q.1))]
  · rw [if_neg h1]
    by_cases h2 : b < v
    · rw [if_pos h2, if_neg (fun q => Int32.lt_irrefl (Int32.lt_of_lt_of_le h2 q.2))]
    · rw [if_neg h2, if_pos ⟨Int32.not_lt.mp h1, Int32.not_lt.mp h2⟩]
theorem q_isOn {S : SM} {x y : Int32} : fX12_isOn S x y = some (if onG x ∧ onG y then 1 else 0) := by
  unfold fX12_isOn
  rw [q_isIn, q_isIn]
  show (if (if onG x then (1 : Int32) else 0) = 0 then some 0 else (if (if onG y then (1 : Int32) else 0) = 0 then some 0 else some 1)) = _
  by_cases h1 : onG x
  · rw [if_pos h1, if_neg (by decide)]
    by_cases h2 : onG y
    · rw [if_pos h2, if_neg (by decide), if_pos ⟨h1, h2⟩]
    · rw [if_neg h2, if_pos rfl, if_neg (fun q => h2 q.2)]
  · rw [if_neg h1, if_pos rfl, if_neg (fun q => h1 q.1)]
theorem QC.bit {p row : Nat} {S : SM} {x y h d f : Int32} {c : Nat} {nm R U sa : Nat → Int32} {m b : Int32} (hr : row < 16) (hQ : QC p S (x, y, h, d, f, c, nm, R, U, sa)) (hm : m = 0 ∨ b = 0) :
    QC p (ua (ua (ua S 13 (16 * p + row) (ar S 13 (16 * p + row) ||| m)) 14 (16 * p + row) (ar S 14 (16 * p + row) ||| b)) 18 c (ar S 18 c + 1)) (x, y, h, d, f, c, nm, up1 R row (R row ||| m), up1 U row (U row ||| b), up1 sa c (sa c + 1)) := by
  obtain ⟨q1, q2, q3, q4, q5, q6, q7, q8, q9, q10⟩ := hQ
  refine ⟨q1, q2, q3, q4, q5, q6, fun j hj => ?_, fun j hj => ?_, fun j hj => ?_, fun j hj => ?_⟩
  · exact q7 j hj
  · rw [ar_ua, if_neg (by omega), ar_ua, if_neg (by omega), ar_ua]
    show _ = (if j = row then _ else R j)
    by_cases e : j = row
    · rw [if_pos (by omega), if_pos e, q8 row hr]
    · rw [if_neg (by omega), if_neg e, q8 j hj]
  · rw [ar_ua, if_neg (by omega), ar_ua]
    show _ = (if j = row then _ else U j)
    by_cases e : j = row
    · rw [if_pos (by omega), if_pos e, q9 row hr]
    · rw [if_neg (by omega), if_neg e, ar_ua, if_neg (by omega), q9 j hj]
  · rw [ar_ua]
    show _ = (if j = c then sa c + 1 else sa j)
    by_cases e : j = c
    · rw [if_pos ⟨rfl, e⟩, if_pos e, q10 c (Nat.le_refl _)]
    · rw [if_neg (fun q => e q.2), if_neg e, ar_ua, if_neg (by omega), ar_ua, if_neg (by omega), q10 j hj]
theorem up1_same {f : Nat → Int32} {i : Nat} : up1 f i (f i ||| 0) = f := by
  funext j
  show (if j = i then f i ||| 0 else f j) = f j
  by_cases e : j = i
  · rw [if_pos e, or_z, e]
  · rw [if_neg e]
theorem q_idx {p row : Nat} : (16 : Int32) * nI p + nI row = nI (16 * p + row) := by
  rw [show (16 : Int32) = nI 16 from rfl, pk_mul, nI_add]
theorem q_draws {p a b e2 e3 : Nat} {S : SM} {h d f : Int32} {c : Nat} {nm R U sa : Nat → Int32} (hp : p < 30) (ha : a < 16) (hb : b < 16) (h2 : e2 < 16) (h3 : e3 < 16) (hc : c ≤ 600) (hd : d ≠ 0) (hQ : QC p S (nI a, nI b, h, d, f, c, nm, R, U, sa)) :
    ∃ S', fX12_draws S (nI p) (nI e2) (nI e3) = some S' ∧ QC p (uc (uc S' 21 (nI e2)) 22 (nI e3)) (mvB (nI a) (nI b) h d f c nm R U sa (nI e2) (nI e3)) ∧ GF p S S' := by
  obtain ⟨q1, q2, q3, q4, q5, q6, q7, q8, q9, q10⟩ := id hQ
  obtain ⟨lx, hlx, elx⟩ := minB_n ha h2
  obtain ⟨ly, hly, ely⟩ := minB_n hb h3
  have hi : 16 * p + ly < 480 := by omega
  have i13 : inS 0 13 (nI (16 * p + ly)) = true := inS_ok (by decide) rfl hi (by decide)
  have i14 : inS 0 14 (nI (16 * p + ly)) = true := inS_ok (by decide) rfl hi (by decide)
  have i18 : inS 0 18 (nI c) = true := inS_ok (by decide) rfl (by show c < 601; omega) (by decide)
  have hcl : (nI (16 * p + ly)).toNatClampNeg = 16 * p + ly := nI_clamp (by omega)
  have hcc : (nI c).toNatClampNeg = c := nI_clamp (by omega)
  have st0 : fX12_draws S (nI p) (nI e2) (nI e3) = fX12_draws_L34 S (nI p) (nI e2) (nI lx) (nI ly) := by
    unfold fX12_draws
    rw [q1, minB_le (fun z => fX12_draws_L16 S (nI p) (nI e2) (nI e3) z), elx]
    show fX12_draws_L16 S (nI p) (nI e2) (nI e3) (nI lx) = _
    unfold fX12_draws_L16
    rw [q2, minB_le (fun z => fX12_draws_L34 S (nI p) (nI e2) (nI lx) z), ely]
  have mv : ∀ S1 s1, QC p S1 s1 → ∀ X Y, QC p (uc (uc S1 21 X) 22 Y) (match s1 with | (_, _, h, d, f, c, nm, R, U, sa) => (X, Y, h, d, f, c, nm, R, U, sa)) := by
    intro S1 s1 h1 X Y
    obtain ⟨x9, y9, h9, d9, f9, c9, nm9, R9, U9, sa9⟩ := s1
    obtain ⟨k1, k2, k3, k4, k5, k6, k7, k8, k9, k10⟩ := h1
    exact ⟨rfl, rfl, k3, k4, k5, k6, k7, k8, k9, k10⟩
  rw [st0]
  unfold fX12_draws_L34
  rw [q1, q_idx]
  unfold mvB
  rw [if_neg hd, elx, ely, nI_clamp (show ly < 2 ^ 31 by omega)]
  have tail : ∀ m b9 : Int32, fX12_draws_L138 (ua S 13 (16 * p + ly) (ar S 13 (16 * p + ly) ||| m)) (nI (16 * p + ly)) (ar S 14 (16 * p + ly)) b9 = some (ua (ua (ua S 13 (16 * p + ly) (ar S 13 (16 * p + ly) ||| m)) 14 (16 * p + ly) (ar S 14 (16 * p + ly) ||| b9)) 18 c (ar S 18 c + 1)) := by
    intro m b9
    unfold fX12_draws_L138
    rw [if_pos i14, sc_ua, sc_ua, q6, if_pos i18, if_pos i18, hcl, hcc, ar_ua, if_neg (by omega), ar_ua, if_neg (by omega)]
  have gf : ∀ m b9 : Int32, GF p S (ua (ua (ua S 13 (16 * p + ly) (ar S 13 (16 * p + ly) ||| m)) 14 (16 * p + ly) (ar S 14 (16 * p + ly) ||| b9)) 18 c (ar S 18 c + 1)) := fun m b9 => ((GF.ua (by omega)).trans (GF.ua (by omega))).trans (GF.ua (by omega))
  by_cases e : nI e2 = nI a
  · rw [if_pos e, if_pos e]
    unfold fX12_draws_L58
    rw [if_pos rfl, if_pos i14]
    unfold fX12_draws_L82
    rw [hcl, q9 ly hly]
    by_cases e9 : bit1 (U ly) (nI lx) = 0
    · rw [if_pos e9, if_pos (show (((U ly) >>> (nI lx &&& 31)) &&& (1 : Int32)) = 0 from e9), if_pos i13, if_pos rfl]
      unfold fX12_draws_L115
      rw [if_pos i13, if_pos i14, if_pos rfl, ar_ua, if_neg (by omega), hcl, tail 0 ((1 : Int32) <<< (nI lx &&& 31))]
      refine ⟨_, rfl, ?_, gf _ _⟩
      have k := QC.bit (m := 0) (b := (1 : Int32) <<< (nI lx &&& 31)) hly hQ (Or.inl rfl)
      rw [up1_same] at k
      exact mv _ _ k _ _
    · rw [if_neg e9, if_neg (show ¬ (((U ly) >>> (nI lx &&& 31)) &&& (1 : Int32)) = 0 from e9)]
      exact ⟨_, rfl, mv _ _ hQ _ _, GF.rfl9⟩
  · rw [if_neg e, if_neg e]
    unfold fX12_draws_L58
    rw [if_neg (by decide), if_pos i13]
    unfold fX12_draws_L82
    rw [hcl, q8 ly hly]
    by_cases e9 : bit1 (R ly) (nI lx) = 0
    · rw [if_pos e9, if_pos (show (((R ly) >>> (nI lx &&& 31)) &&& (1 : Int32)) = 0 from e9), if_pos i13, if_neg (by decide), ← q8 ly hly]
      unfold fX12_draws_L115
      rw [if_pos i13, if_pos i14, if_neg (by decide), ar_ua, if_neg (by omega), hcl, tail ((1 : Int32) <<< (nI lx &&& 31)) 0]
      refine ⟨_, rfl, ?_, gf _ _⟩
      have k := QC.bit (m := (1 : Int32) <<< (nI lx &&& 31)) (b := 0) hly hQ (Or.inr rfl)
      rw [up1_same, ← q8 ly hly] at k
      exact mv _ _ k _ _
    · rw [if_neg e9, if_neg (show ¬ (((R ly) >>> (nI lx &&& 31)) &&& (1 : Int32)) = 0 from e9)]
      exact ⟨_, rfl, mv _ _ hQ _ _, GF.rfl9⟩
theorem q_goes {p : Nat} {S : SM} {s : Cor} (hp : p < 30) (hC : CI s) (hQ : QC p S s) : ∃ S', fX12_goes S (nI p) = some S' ∧ QC p S' (goB s) ∧ GF p S S' := by
  obtain ⟨x, y, h, d, f, c, nm, R, U, sa⟩ := s
  obtain ⟨c1, c2, c3, c4, c5, c6⟩ := id hC
  have c6 : c ≤ 600 := c6
  obtain ⟨q1, q2, q3, q4, q5, q6, q7, q8, q9, q10⟩ := id hQ
  obtain ⟨a, ha, rfl⟩ := onG_of c1
  obtain ⟨b, hb, rfl⟩ := onG_of c2
  have e0 : fX12_goes S (nI p) = fX12_goes_L59 S (nI p) (nI a + ahX h) (nI b) (ahY h) := by
    have e1 : fX12_goes S (nI p) = fX12_goes_L29 S (nI p) (nI a) (ahX h) := by
      unfold fX12_goes
      rw [q3, q1]
      unfold ahX
      by_cases k1 : h = 1
      · rw [if_pos k1, if_pos k1]
      · rw [if_neg k1, if_neg k1]
        by_cases k3 : h = 3
        · rw [if_pos k3, if_pos k3]
        · rw [if_neg k3, if_neg k3]
    rw [e1]
    unfold fX12_goes_L29
    rw [q3, q2]
    unfold ahY
    by_cases k1 : h = 0
    · rw [if_pos k1, if_pos k1]
    · rw [if_neg k1, if_neg k1]
      by_cases k3 : h = 2
      · rw [if_pos k3, if_pos k3]
      · rw [if_neg k3, if_neg k3]
  rw [e0]
  unfold fX12_goes_L59
  obtain ⟨n1, n2⟩ := q_counts hQ c6
  show ∃ S', _ ∧ QC p S' (if c = 600 then _ else _) ∧ _
  by_cases e6 : c = 600
  · rw [if_pos (by rw [q6, e6]; exact Int32.le_refl _), if_pos e6]
    unfold fX12_goes_L87
    obtain ⟨m1, m2, m3⟩ := n1 e6
    rw [m1, bW_some, if_pos rfl]
    exact ⟨_, rfl, m2, m3⟩
  · rw [if_neg (by rw [q6]; exact fun q => e6 (by have := (nI_leI (by omega : 600 < 2 ^ 31) (by omega)).mp q; omega)), if_neg e6, q_isOn]
    show ∃ S', (if (if onG (nI a + ahX h) ∧ onG (nI b + ahY h) then (1 : Int32) else 0) = 0 then _ else _) = some S' ∧ _
    by_cases eo : onG (nI a + ahX h) ∧ onG (nI b + ahY h)
    · rw [if_pos eo, if_neg (by decide), if_pos eo]
      obtain ⟨S1, m1, m2, m3⟩ := n2 e6
      obtain ⟨e2, h2, k2⟩ := onG_of eo.1
      obtain ⟨e3, h3, k3⟩ := onG_of eo.2
      rw [k2, k3]
      unfold fX12_goes_L87
      rw [m1]
      rw [bW_some, if_neg (by decide)]
      have hd : sc S1 24 = d := m2.2.2.2.1
      rw [hd]
      by_cases ed : d = 0
      · rw [if_pos ed]
        refine ⟨_, rfl, ?_, m3.trans ((GF.uc (by omega)).trans (GF.uc (by omega)))⟩
        unfold mvB
        rw [if_pos ed]
        obtain ⟨k1, k2, k3, k4, k5, k6, k7, k8, k9, k10⟩ := m2
        exact ⟨rfl, rfl, k3, k4, k5, k6, k7, k8, k9, k10⟩
      · rw [if_neg ed]
        obtain ⟨S2, w1, w2, w3⟩ := q_draws hp ha hb h2 h3 (by omega : c + 1 ≤ 600) ed m2
        rw [w1, bi_some]
        exact ⟨_, rfl, w2, m3.trans (w3.trans ((GF.uc (by omega)).trans (GF.uc (by omega))))⟩
    · rw [if_neg eo, if_pos rfl, if_neg eo]
      exact ⟨_, rfl, ⟨q1, q2, q3, q4, rfl, q6, q7, q8, q9, q10⟩, GF.uc (by omega)⟩
