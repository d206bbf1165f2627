/-! two programs: one form, likeness, alike -/
theorem lcR_sym {c c' : Nat → Int32} : ∀ i j, lcR c c' i j = lcR c' c j i := by
  intro i
  induction i with
  | zero => intro j; rw [lcR_0]; rfl
  | succ i ih =>
    intro j
    induction j with
    | zero => rw [lcR_0]; rfl
    | succ j ihj =>
      rw [lcR_s, lcR_s, ih j, ih (j + 1), ihj, Nat.max_comm]
      by_cases e : c i = c' j
      · rw [if_pos e, if_pos e.symm]
      · rw [if_neg e, if_neg (fun q => e q.symm)]
theorem lcR_nn {c c' : Nat → Int32} : ∀ n, lcR c c' n n = n ↔ ∀ i, i < n → c i = c' i := by
  intro n
  induction n with
  | zero => exact ⟨fun _ i hi => absurd hi (Nat.not_lt_zero _), fun _ => rfl⟩
  | succ n ih =>
    rw [lcR_s]
    have a := lcR_le (c := c) (c' := c') n (n + 1)
    have b := lcR_le (c := c) (c' := c') (n + 1) n
    by_cases e : c n = c' n
    · rw [if_pos e]
      refine ⟨fun q i hi => ?_, fun q => ?_⟩
      · by_cases ei : i = n
        · rw [ei]
          exact e
        · exact ih.mp (by omega) i (by omega)
      · rw [ih.mpr (fun i hi => q i (by omega))]
    · rw [if_neg e]
      refine ⟨fun q => ?_, fun q => absurd (q n (by omega)) e⟩
      have := Nat.max_le (a := lcR c c' n (n + 1)) (b := lcR c c' (n + 1) n) (c := n)
      omega
theorem lcG_sym {g g' : Pg} : lcG g g' = lcG g' g := lcR_sym _ _
theorem lcG_le {g g' : Pg} : lcG g g' ≤ pgn g ∧ lcG g g' ≤ pgn g' := lcR_le _ _
def lkG (g g' : Pg) : Nat := 200 * lcG g g' / (pgn g + pgn g')
theorem lkG_sym {g g' : Pg} : lkG g g' = lkG g' g := by
  unfold lkG
  rw [lcG_sym, Nat.add_comm]
theorem lkG_le {g g' : Pg} : lkG g g' ≤ 100 := by
  unfold lkG
  obtain ⟨a, b⟩ := lcG_le (g := g) (g' := g')
  exact Nat.div_le_of_le_mul (by omega)
theorem lkG_100 {g g' : Pg} (h : 0 < pgn g) : lkG g g' = 100 ↔ FoG g g' := by
  obtain ⟨a, b⟩ := lcG_le (g := g) (g' := g')
  unfold lkG FoG
  constructor
  · intro q
    have h1 : 100 * (pgn g + pgn g') ≤ 200 * lcG g g' := (Nat.le_div_iff_mul_le (by omega)).mp (Nat.le_of_eq q.symm)
    have e1 : pgn g = pgn g' := by omega
    refine ⟨e1, (lcR_nn (pgn g)).mp ?_⟩
    have e2 : lcG g g' = pgn g := by omega
    unfold lcG at e2
    rw [← e1] at e2
    exact e2
  · intro ⟨e1, q⟩
    have e2 : lcG g g' = pgn g := by
      unfold lcG
      rw [← e1]
      exact (lcR_nn (pgn g)).mpr q
    rw [e2, ← e1, show 200 * pgn g = 100 * (pgn g + pgn g) by omega]
    exact Nat.mul_div_cancel _ (by omega)
theorem FoG_sym {g g' : Pg} (h : FoG g g') : FoG g' g := ⟨h.1.symm, fun i hi => (h.2 i (by rw [h.1]; exact hi)).symm⟩
theorem FoG_rfl {g : Pg} : FoG g g := ⟨rfl, fun _ _ => rfl⟩
theorem AlG_rfl {g : Pg} : AlG g g := ⟨rfl, fun _ _ => ⟨rfl, rfl⟩⟩
theorem TF_un9 {r r' : Int32} {Q : Prop} (h : TF r Q) (k : TF r' Q) : r = r' := by
  rcases h with ⟨h1, h2⟩ | ⟨h1, h2⟩
  · rcases k with ⟨k1, k2⟩ | ⟨k1, k2⟩
    · rw [h1, k1]
    · exact absurd h2 k2
  · rcases k with ⟨k1, k2⟩ | ⟨k1, k2⟩
    · exact absurd k2 h2
    · rw [h1, k1]
section TWO
variable {fu x ac ap aw : Nat} {K T V N : Nat → Int32} {n np : Nat} {G : Nat → Pg} {ne : Nat} {ew : Nat → Nat} {eo es : Nat → Int32} {nw : Nat} {wp we : Nat → Nat} {wc : Nat → Int32} {wo : Nat → Option Nat} {W H : Nat} {P : LwP}
/-- what keeps the class's answers keeps all -/
theorem LwS.cl {m : Nat} {X1 : Mem} (h : LwS x ac ap aw m K T V N n np G ne ew eo es nw wp we wc wo W H P) (hS : StX x K T V N n np G ne ew eo es nw wp we wc wo W H X1) (k : Keeps9 P.1 X1) : LwS x ac ap aw m K T V N n np G ne ew eo es nw wp we wc wo W H (X1, P.2) := ⟨hS, h.2.1, h.2.2.1.cl k, h.2.2.2⟩
theorem m_lk {p q : Nat} (hfu : 5000 ≤ fu) (h : LwS x ac ap aw n K T V N n np G ne ew eo es nw wp we wc wo W H P) (h1 : p < np) (h2 : q < np) : ∃ X1, fX11_likeness fu P.1 x (nI p) (nI q) = some (.inr (nI (lkG (G p) (G q)), X1)) ∧ LwS x ac ap aw n K T V N n np G ne ew eo es nw wp we wc wo W H (X1, P.2) := by
  obtain ⟨X1, a1, a2, a3⟩ := m_likeness hfu h.1 h.2.1 h1 h2
  have g1 : GB (G p) := h.2.1.2.1.2 p h1
  have g2 : GB (G q) := h.2.1.2.1.2 q h2
  have n1 : pgn (G p) ≤ 30 := g1.1.1
  have n2 : pgn (G q) ≤ 30 := g2.1.1
  have n0 : 0 < pgn (G p) := g1.2.1
  obtain ⟨z1, z2⟩ := lcG_le (g := G p) (g' := G q)
  refine ⟨X1, ?_, h.cl a2 a3⟩
  rw [a1, show (200 : Int32) = nI 200 from rfl, pk_mul, pk_div (by omega) (by omega) (by omega)]
  rfl
theorem ok_areTwo {p q : Nat} (hfu : 5000 ≤ fu) (h : LwS x ac ap aw n K T V N n np G ne ew eo es nw wp we wc wo W H P) (h1 : p < np) (h2 : q < np) : ∃ X1, fL_areTwo fu P x ap (nI p) (nI q) = some (1, (X1, P.2)) ∧ LwS x ac ap aw n K T V N n np G ne ew eo es nw wp we wc wo W H (X1, P.2) := by
  have g1 : GB (G p) := h.2.1.2.1.2 p h1
  have g2 : GB (G q) := h.2.1.2.1.2 q h2
  have n0 : 0 < pgn (G p) := g1.2.1
  have n0' : 0 < pgn (G q) := g2.2.1
  obtain ⟨v3, a1, a2⟩ := m_haveOneForm hfu h.1 h.2.1 h1 h2
  obtain ⟨X1, b1, b2⟩ := m_lk hfu h h1 h2
  obtain ⟨X2, c1, c2⟩ := m_lk (P := (X1, P.2)) hfu b2 h2 h1
  obtain ⟨v4, d1, d2⟩ := m_haveOneForm hfu c2.1 c2.2.1 h2 h1
  obtain ⟨X3, e1, e2⟩ := m_lk (P := (X2, P.2)) hfu c2 h1 h1
  obtain ⟨v5, f1, f2⟩ := m_areAlike hfu e2.1 e2.2.1 h1 h2
  obtain ⟨v6, i1, i2⟩ := m_areAlike hfu e2.1 e2.2.1 h1 h1
  obtain ⟨v7, j1, j2⟩ := ok_isAlike (P := (X3, P.2)) hfu e2.1 e2.2.1 e2.2.2.1 e2.2.2.2.2.1.2.2.2.2.2.1 e2.2.2.2.2.2.1 h1 h2
  have lim := lkG_le (g := G p) (g' := G q)
  have ev4 : v4 = v3 := TF_un9 (d2.cg ⟨FoG_sym, FoG_sym⟩) a2
  have ev6 : v6 = 1 := TF_un9 i2 (Or.inl ⟨rfl, AlG_rfl⟩)
  have e100 : lkG (G p) (G p) = 100 := (lkG_100 n0).mpr FoG_rfl
  have l83 : fL_areTwo_L83 fu (X3, P.2) x ap (nI p) (nI q) 1 = some (1, (X3, P.2)) := by
    unfold fL_areTwo_L83
    rw [if_neg n1z, if_pos (m_k e2.1), f1, nT_r, j1, bi_some, if_pos (TF_un9 f2 j2), i1, nT_r, ev6, if_neg n1z]
  have l51 : fL_areTwo_L51 fu (X2, P.2) x ap (nI p) (nI q) v3 v3 = some (1, (X3, P.2)) := by
    unfold fL_areTwo_L51
    rw [if_pos rfl, if_pos (m_k c2.1), d1, nT_r, if_pos ev4, e1, nTW_r, bi_some, apC_ok e2.2.2.1.2.2.2.1, e100, if_pos (show nI 100 = (100 : Int32) from rfl), l83]
  refine ⟨X3, ?_, e2⟩
  unfold fL_areTwo
  rw [if_pos (m_k h.1), a1, nT_r, b1, nTW_r, bi_some, apC_ok b2.2.2.1.2.2.2.1]
  dsimp only
  rw [if_pos (m_k b2.1), c1, nTW_r, bi_some, apC_ok c2.2.2.1.2.2.2.1, lkG_sym (g := G q), if_pos rfl, if_neg (show ¬ nI (lkG (G p) (G q)) < 0 from fun z => by have := (nI_ltI (by omega) (by omega : 0 < 2 ^ 31)).mp z; omega), if_neg (show ¬ (100 : Int32) < nI (lkG (G p) (G q)) from fun z => by have := (nI_ltI (by omega : 100 < 2 ^ 31) (by omega)).mp z; omega)]
  by_cases e : nI (lkG (G p) (G q)) = (100 : Int32)
  · have e' : lkG (G p) (G q) = 100 := (nI_eq (by omega) (by omega : 100 < 2 ^ 31)).mp e
    have ev : v3 = 1 := TF_un9 a2 (Or.inl ⟨rfl, (lkG_100 n0).mp e'⟩)
    subst ev
    rw [if_pos e]
    exact l51
  · have ev : v3 = 0 := TF_un9 a2 (Or.inr ⟨rfl, fun z => e (by rw [(lkG_100 n0).mpr z]; rfl)⟩)
    subst ev
    rw [if_neg e]
    exact l51
end TWO
