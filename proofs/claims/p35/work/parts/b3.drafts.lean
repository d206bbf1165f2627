/-! an order is drafted -/
section DRA
variable {x ac ap aw m : Nat} {K T V N : Nat → Int32} {n np : Nat} {G : Nat → Pg} {ne : Nat} {ew : Nat → Nat} {eo es : Nat → Int32} {nw : Nat} {wp we : Nat → Nat} {wc : Nat → Int32} {wo : Nat → Option Nat} {W H : Nat} {P : LwP}
theorem LwS.inc (h : LwS x ac ap aw m K T V N n np G ne ew eo es nw wp we wc wo W H P) (m' : Nat) : LwS x ac ap aw m' K T V N n np G ne ew eo es nw wp we wc wo W H (P.1, sI P.2 ac 0 (nI m')) := by
  obtain ⟨hS, hR, hO, ⟨d0, d1, d2⟩, hI, hp, hw⟩ := h
  obtain ⟨cp1, cp2, -⟩ := hO.cp
  refine ⟨hS, hR, hO.st _ _ _, ⟨?_, ?_, ?_⟩, hI.cg (fun i h1 h2 => ?_), ?_, ?_⟩
  · show aI (sI P.2 ac 0 (nI m')) ac 0 = nI m'
    rw [yI_s, upN_s]
  · show aI (sI P.2 ac 0 (nI m')) ac 1 = _
    rw [yI_s, upN_o (by decide)]
    exact d1
  · show ∀ t, t < 4 → TF (bit1 (aI (sI P.2 ac 0 (nI m')) ac 2) (nI t)) _
    rw [yI_s, upN_o (by decide)]
    exact d2
  · show aI (sI P.2 ac 0 (nI m')) ac i = _
    rw [yI_s, upN_o (by omega)]
  · show LIp np G (aI (sI P.2 ac 0 (nI m')) ap)
    rw [yI_o cp1.symm]
    exact hp
  · show LIw ne ew eo es nw wp we wc (aI (sI P.2 ac 0 (nI m')) aw)
    rw [yI_o cp2.symm]
    exact hw
/-- a call that adds an order that opens and closes nothing -/
theorem LwS.add {k t v nn : Int32} {X1 : Mem} (h : LwS x ac ap aw (n + 1) K T V N n np G ne ew eo es nw wp we wc wo W H P) (h5 : k ≠ 5) (h6 : k ≠ 6) (h8 : k ≠ 8) (z2 : StX x (upN K n k) (upN T n t) (upN V n v) (upN N n nn) (n + 1) np G ne ew eo es nw wp we wc wo W H X1) (z3 : RelP (upN K n k) (upN T n t) (upN V n v) (upN N n nn) (n + 1) np G ne ew nw wp we wc wo W H) (z4 : Keeps9 P.1 X1) : LwS x ac ap aw (n + 1) (upN K n k) (upN T n t) (upN V n v) (upN N n nn) (n + 1) np G ne ew eo es nw wp we wc wo W H (X1, P.2) := by
  obtain ⟨hS, hR, hO, ⟨d0, d1, d2⟩, hI, hp, hw⟩ := id h
  exact h.drf z2 z3 z4 rfl (LId.op ⟨d0, d1, d2⟩ d0 (by rw [opn_o h5 h6 h8]; exact d1) rfl h6) (fun _ _ _ => rfl) rfl rfl
theorem l_180 {v : Int32} (h : LwS x ac ap aw m K T V N n np G ne ew eo es nw wp we wc wo W H P) (hv : v = nI m) : fL_drafts_L180 P ac v = some (1, P) := by
  obtain ⟨hS, hR, hO, ⟨d0, d1, d2⟩, hI, hp, hw⟩ := h
  unfold fL_drafts_L180
  rw [if_pos hO.c0, cl0, d0, if_pos hv]
theorem ok_43 {wh a b v : Nat} {nm : Int32} (hn : n < 30) (hwh : wh < 7) (ha : a < 2 ^ 31) (hb : b < 2 ^ 31) (hnm : (nm = 1 ∧ v < 4) ∨ (nm = 0 ∧ v < 9)) (h : LwS x ac ap aw n K T V N n np G ne ew eo es nw wp we wc wo W H P) : ∃ P' K' T' V' N', fL_drafts_L43 P x ac (nI wh) (nI a) (nI b) nm (nI v) = some (1, P') ∧ LwS x ac ap aw (n + 1) K' T' V' N' (n + 1) np G ne ew eo es nw wp we wc wo W H P' := by
  have h1 := h.inc (n + 1)
  have hO0 := h.2.2.1
  have d00 := h.2.2.2.1.1
  have va : VaP (nI v) nm 0 := hnm.elim (fun q => Or.inr ⟨q.1, v, q.2, rfl⟩) (fun q => Or.inl ⟨q.1, nI_pos' (by omega), (nI_leI (by omega) (by omega : 99 < 2 ^ 31)).mpr (by omega)⟩)
  have hnm0 : nm = 1 → ¬ nm = 0 := fun q => by rw [q]; decide
  have a4 : a % 4 < 4 := Nat.mod_lt _ (by decide)
  have e4 : nI a - nI a / (4 : Int32) * (4 : Int32) = nI (a % 4) := pk_rem ha (by decide) (by decide)
  unfold fL_drafts_L43
  rw [if_pos hO0.c0, if_pos hO0.c0, cl0, d00, nI_1]
  generalize eP : ((P.1, sI P.2 ac 0 (nI (n + 1))) : LwP) = P1 at h1
  have ex : P.1 = P1.1 := by rw [← eP]
  have ey : sI P.2 ac 0 (nI (n + 1)) = P1.2 := by rw [← eP]
  rw [ex, ey]
  clear h hO0 d00 eP ex ey
  obtain ⟨hS, hR, hO, ⟨d0, d1, d2⟩, hI, hp, hw⟩ := id h1
  obtain ⟨cp1, cp2, -⟩ := hO.cp
  have hx := m_k hS
  -- the forms of a call's end
  have l92 : ∃ P' K' T' V' N', fL_drafts_L92 P1 x ac nm (nI v) = some (1, P') ∧ LwS x ac ap aw (n + 1) K' T' V' N' (n + 1) np G ne ew eo es nw wp we wc wo W H P' := by
    obtain ⟨X1, z1, z2, z3, z4⟩ := m_forward hS hR hn va
    unfold fL_drafts_L92
    rw [if_pos hx, z1, nTW_r, bi_some, apC_ok (hO.cl z4).2.2.2.1]
    dsimp only
    rw [if_pos hO.c0, cl0, d0, if_pos rfl]
    exact ⟨_, _, _, _, _, rfl, h1.add (by decide) (by decide) (by decide) z2 z3 z4⟩
  have l151 : ∀ q : Int32, (q = 0 ∨ q = 1) → ∃ P' K' T' V' N', fL_drafts_L151 P1 ac x q = some (1, P') ∧ LwS x ac ap aw (n + 1) K' T' V' N' (n + 1) np G ne ew eo es nw wp we wc wo W H P' := by
    intro q hq
    obtain ⟨X1, v9, z1, z2, z3, z4⟩ := m_pen hS hR hn hq
    have k := h1.add (by decide) (by decide) (by decide) z2 z3 z4
    unfold fL_drafts_L151
    rw [if_pos hx, z1, nTW_r, bi_some, apC_ok (hO.cl z4).2.2.2.1, l_180 k rfl]
    exact ⟨_, _, _, _, _, rfl, k⟩
  have vs : ∀ (s : Int32), (nm = 1 → s = nI v) → (nm = 0 → -99 ≤ s ∧ s ≤ 99) → VaP s nm (-99) := fun s s1 s2 => hnm.elim (fun q => Or.inr ⟨q.1, v, q.2, s1 q.1⟩) (fun q => Or.inl ⟨q.1, s2 q.1⟩)
  have l175 : ∀ (s : Int32), (nm = 1 → s = nI v) → (nm = 0 → -99 ≤ s ∧ s ≤ 99) → ∃ P' K' T' V' N', fL_drafts_L175 P1 ac nm x (nI (a % 4)) s = some (1, P') ∧ LwS x ac ap aw (n + 1) K' T' V' N' (n + 1) np G ne ew eo es nw wp we wc wo W H P' := by
    intro s s1 s2
    obtain ⟨X1, z1, z2, z3, z4⟩ := m_add hS hR hn ⟨a % 4, a4, rfl⟩ (vs s s1 s2)
    have k := h1.add (by decide) (by decide) (by decide) z2 z3 z4
    unfold fL_drafts_L175
    rw [if_pos hx, z1, nTW_r, bi_some, apC_ok (hO.cl z4).2.2.2.1, l_180 k rfl]
    exact ⟨_, _, _, _, _, rfl, k⟩
  have l210 : ∀ (s : Int32), (nm = 1 → s = nI v) → (nm = 0 → -99 ≤ s ∧ s ≤ 99) → ∃ P' K' T' V' N', fL_drafts_L210 P1 ac nm x (nI (a % 4)) s = some (1, P') ∧ LwS x ac ap aw (n + 1) K' T' V' N' (n + 1) np G ne ew eo es nw wp we wc wo W H P' := by
    intro s s1 s2
    obtain ⟨X1, z1, z2, z3, z4⟩ := m_set hS hR hn ⟨a % 4, a4, rfl⟩ (vs s s1 s2)
    unfold fL_drafts_L210
    rw [if_pos hx, z1, nTW_r, bi_some, apC_ok (hO.cl z4).2.2.2.1]
    dsimp only
    rw [if_pos hO.c0, cl0, d0, if_pos rfl]
    exact ⟨_, _, _, _, _, rfl, h1.add (by decide) (by decide) (by decide) z2 z3 z4⟩
  have small : ∀ d : Nat, d ≤ 2 → nm = 0 → -99 ≤ nI v - nI d ∧ nI v - nI d ≤ 99 := by
    intro d hd q
    have hv : v < 9 := hnm.elim (fun z => absurd q (hnm0 z.1)) (fun z => z.2)
    have e : (nI v - nI d).toInt = (v : Int) - d := pk_sub_toInt (by omega) (by omega)
    refine ⟨Int32.le_iff_toInt_le.mpr ?_, Int32.le_iff_toInt_le.mpr ?_⟩
    · rw [e, show (-99 : Int32).toInt = -99 by decide]
      omega
    · rw [e, show (99 : Int32).toInt = 99 by decide]
      omega
  rcases (show wh = 0 ∨ wh = 1 ∨ wh = 2 ∨ wh = 3 ∨ wh = 4 ∨ wh = 5 ∨ wh = 6 by omega) with e | e | e | e | e | e | e <;> subst e
  · rw [if_pos (show nI 0 = (0 : Int32) from rfl)]
    exact l92
  · rw [if_neg (show ¬ nI 1 = (0 : Int32) by decide), if_pos (show nI 1 = (1 : Int32) from rfl)]
    exact l92
  · rw [if_neg (show ¬ nI 2 = (0 : Int32) by decide), if_neg (show ¬ nI 2 = (1 : Int32) by decide), if_pos (show nI 2 = (2 : Int32) from rfl)]
    obtain ⟨X1, z1, z2, z3, z4⟩ := m_turn hS hR hn va
    rw [if_pos hx, z1, nTW_r, bi_some, apC_ok (hO.cl z4).2.2.2.1]
    dsimp only
    rw [if_pos hO.c0, d0, if_pos rfl]
    exact ⟨_, _, _, _, _, rfl, h1.add (by decide) (by decide) (by decide) z2 z3 z4⟩
  · rw [if_neg (show ¬ nI 3 = (0 : Int32) by decide), if_neg (show ¬ nI 3 = (1 : Int32) by decide), if_neg (show ¬ nI 3 = (2 : Int32) by decide), if_pos (show nI 3 = (3 : Int32) from rfl)]
    by_cases e3 : nI b - nI b / (3 : Int32) * (3 : Int32) = 0
    · rw [if_pos e3]
      by_cases e2 : nI a - nI a / (2 : Int32) * (2 : Int32) = 0
      · rw [if_pos e2]
        exact l151 1 (Or.inr rfl)
      · rw [if_neg e2]
        exact l151 0 (Or.inl rfl)
    · rw [if_neg e3, e4]
      by_cases e0 : nm = 0
      · rw [if_pos e0]
        exact l175 _ (fun q => absurd e0 (hnm0 q)) (fun q => small 2 (by omega) q)
      · rw [if_neg e0]
        exact l175 _ (fun _ => rfl) (fun q => absurd q e0)
  · rw [if_neg (show ¬ nI 4 = (0 : Int32) by decide), if_neg (show ¬ nI 4 = (1 : Int32) by decide), if_neg (show ¬ nI 4 = (2 : Int32) by decide), if_neg (show ¬ nI 4 = (3 : Int32) by decide), if_pos (show nI 4 = (4 : Int32) from rfl), e4]
    by_cases e0 : nm = 0
    · rw [if_pos e0]
      exact l210 _ (fun q => absurd e0 (hnm0 q)) (fun q => small 1 (by omega) q)
    · rw [if_neg e0]
      exact l210 _ (fun _ => rfl) (fun q => absurd q e0)
  · rw [if_neg (show ¬ nI 5 = (0 : Int32) by decide), if_neg (show ¬ nI 5 = (1 : Int32) by decide), if_neg (show ¬ nI 5 = (2 : Int32) by decide), if_neg (show ¬ nI 5 = (3 : Int32) by decide), if_neg (show ¬ nI 5 = (4 : Int32) by decide), if_pos (show nI 5 = (5 : Int32) from rfl)]
    obtain ⟨X1, z1, z2, z3, z4⟩ := m_repeat hS hR hn va
    rw [if_pos hO.c1, if_pos hO.c1, if_pos hx, z1, nTW_r, bi_some, apC_sI, apC_ok (hO.cl z4).2.2.2.1]
    dsimp only
    rw [inb_sI, if_pos hO.c0, cl1, d1, yI_s, upN_o (by decide), d0, if_pos rfl]
    refine ⟨_, _, _, _, _, rfl, h1.drf z2 z3 z4 rfl (LId.op ⟨d0, d1, d2⟩ ?_ ?_ ?_ (by decide)) (fun i h1 h2 => ?_) ?_ ?_⟩
    · rw [yI_s, upN_o (by decide), d0]
    · rw [yI_s, upN_s, opn_5, nI_1]
    · rw [yI_s, upN_o (by decide)]
    · rw [yI_s, upN_o (by omega)]
    · rw [yI_o cp1.symm]
    · rw [yI_o cp2.symm]
  · rw [if_neg (show ¬ nI 6 = (0 : Int32) by decide), if_neg (show ¬ nI 6 = (1 : Int32) by decide), if_neg (show ¬ nI 6 = (2 : Int32) by decide), if_neg (show ¬ nI 6 = (3 : Int32) by decide), if_neg (show ¬ nI 6 = (4 : Int32) by decide), if_neg (show ¬ nI 6 = (5 : Int32) by decide), if_pos (show (nI 6).toInt < 0 ∨ 5 < (nI 6).toInt by decide), e4]
    obtain ⟨P', K', T', V', N', z1, z2⟩ := ok_others (b := b) hn a4 hb h1
    rw [z1, bW_some, apC_ok z2.2.2.1.2.2.2.1, if_pos (Or.inr rfl)]
    exact ⟨_, _, _, _, _, rfl, z2⟩
theorem ok_drafts {wh a b : Nat} (hn : n < 30) (hwh : wh < 7) (ha : a < 2 ^ 31) (hb : b < 2 ^ 31) (h : LwS x ac ap aw n K T V N n np G ne ew eo es nw wp we wc wo W H P) : ∃ P' K' T' V' N', fL_drafts P x ac (nI wh) (nI a) (nI b) = some (1, P') ∧ LwS x ac ap aw (n + 1) K' T' V' N' (n + 1) np G ne ew eo es nw wp we wc wo W H P' := by
  have ed : nI b / (4 : Int32) = nI (b / 4) := pk_div hb (by decide) (by decide)
  have er : ∀ d : Nat, 0 < d → d < 100 → nI (b / 4) - nI (b / 4) / nI d * nI d = nI (b / 4 % d) := fun d h0 h1 => pk_rem (by omega) h0 (by omega)
  have e9 := er 9 (by omega) (by omega)
  have e5 := er 5 (by omega) (by omega)
  have e4 := er 4 (by omega) (by omega)
  unfold fL_drafts fL_drafts_L12 fL_drafts_L42
  rw [ed]
  by_cases e : nI b - nI (b / 4) * (4 : Int32) = 0
  · rw [if_pos e, if_neg n10, show nI (b / 4) - nI (b / 4) / (4 : Int32) * (4 : Int32) = nI (b / 4 % 4) from e4]
    exact ok_43 hn hwh ha hb (Or.inl ⟨rfl, Nat.mod_lt _ (by decide)⟩) h
  · rw [if_neg e, if_pos rfl, if_neg (show ¬ (9 : Int32) = 0 by decide), if_neg (show ¬ (5 : Int32) = 0 by decide), show nI (b / 4) - nI (b / 4) / (9 : Int32) * (9 : Int32) = nI (b / 4 % 9) from e9, show nI (b / 4) - nI (b / 4) / (5 : Int32) * (5 : Int32) = nI (b / 4 % 5) from e5]
    by_cases e0 : nI wh = 0
    · rw [if_pos e0]
      exact ok_43 hn hwh ha hb (Or.inr ⟨rfl, Nat.mod_lt _ (by decide)⟩) h
    · rw [if_neg e0]
      exact ok_43 hn hwh ha hb (Or.inr ⟨rfl, Nat.lt_of_lt_of_le (Nat.mod_lt _ (by decide)) (by decide)⟩) h
end DRA
