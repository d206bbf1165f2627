/-! a call, an end, an own word -/
section OTH
variable {x ac ap aw m : Nat} {K T V N : Nat → Int32} {n np : Nat} {G : Nat → Pg} {ne : Nat} {ew : Nat → Nat} {eo es : Nat → Int32} {nw : Nat} {wp we : Nat → Nat} {wc : Nat → Int32} {wo : Nat → Option Nat} {W H : Nat} {P : LwP}
/-- an order more is drafted, the law's rows say so already -/
theorem LwS.drf {K' T' V' N' : Nat → Int32} {X1 : Mem} {Y : Mem} (h : LwS x ac ap aw m K T V N n np G ne ew eo es nw wp we wc wo W H P) (hS : StX x K' T' V' N' (n + 1) np G ne ew eo es nw wp we wc wo W H X1) (hR : RelP K' T' V' N' (n + 1) np G ne ew nw wp we wc wo W H) (k : Keeps9 P.1 X1) (hk : mK Y = mK P.2) (hd : LId m K' T' (n + 1) (aI Y ac)) (hn : ∀ i, 3 ≤ i → i < 8 → aI Y ac i = aI P.2 ac i) (hp : aI Y ap = aI P.2 ap) (hw : aI Y aw = aI P.2 aw) : LwS x ac ap aw m K' T' V' N' (n + 1) np G ne ew eo es nw wp we wc wo W H (X1, Y) := by
  obtain ⟨h1, h2, h3, h4, h5, h6, h7⟩ := h
  have h3' : LOK (X1, Y) ac ap aw := by
    obtain ⟨q1, q2, q3, q4, q5⟩ := h3.cl k
    exact ⟨by rw [hk]; exact q1, by rw [hk]; exact q2, by rw [hk]; exact q3, fun a ha => q4 a (by rw [← hk]; exact ha), fun a ha => q5 a (by rw [← hk]; exact ha)⟩
  exact ⟨hS, hR, h3', hd, h5.cg hn, by show LIp np G (aI Y ap); rw [hp]; exact h6, by show LIw ne ew eo es nw wp we wc (aI Y aw); rw [hw]; exact h7⟩
theorem ok_others {word b : Nat} (hn : n < 30) (hwd : word < 4) (hb : b < 2 ^ 31) (h : LwS x ac ap aw (n + 1) K T V N n np G ne ew eo es nw wp we wc wo W H P) : ∃ P' K' T' V' N', fL_others P x ac (nI word) (nI b) = some (1, P') ∧ LwS x ac ap aw (n + 1) K' T' V' N' (n + 1) np G ne ew eo es nw wp we wc wo W H P' := by
  have h0 := h
  obtain ⟨hS, hR, hO, ⟨d0, d1, d2⟩, hI, hp, hw⟩ := h
  obtain ⟨cp1, cp2, -⟩ := hO.cp
  have hx := m_k hS
  have hbl := br_len (K := K) n
  have hcall : ∃ P' K' T' V' N', fL_others_L90 P x ac (nI word) = some (1, P') ∧ LwS x ac ap aw (n + 1) K' T' V' N' (n + 1) np G ne ew eo es nw wp we wc wo W H P' := by
    obtain ⟨X1, z1, z2, z3, z4⟩ := m_call hS hR hn ⟨word, hwd, rfl⟩
    have hO1 := hO.cl z4
    unfold fL_others_L90
    rw [if_pos hx, z1, nTW_r, bi_some, apC_ok hO1.2.2.2.1]
    dsimp only
    rw [if_pos hO.c0, cl0, d0, if_pos rfl]
    exact ⟨_, _, _, _, _, rfl, h0.drf z2 z3 z4 rfl (LId.op ⟨d0, d1, d2⟩ d0 (by rw [opn_o (by decide) (by decide) (by decide)]; exact d1) rfl (by decide)) (fun _ _ _ => rfl) rfl rfl⟩
  have hl35 : ∃ P' K' T' V' N', fL_others_L35 P x ac (nI word) (nI b) = some (1, P') ∧ LwS x ac ap aw (n + 1) K' T' V' N' (n + 1) np G ne ew eo es nw wp we wc wo W H P' := by
    unfold fL_others_L35
    rw [if_pos hO.c1, cl1, d1]
    by_cases e1 : nI (br K n).length = 0
    · rw [if_pos e1, if_pos hO.c2, cl2]
      have ebr : br K n = [] := List.eq_nil_of_length_eq_zero ((nI_eq (by omega) (by omega : 0 < 2 ^ 31)).mp e1)
      by_cases e2 : ((aI P.2 ac 2 >>> (nI word &&& 31)) &&& (1 : Int32)) = 0
      · rw [if_pos e2]
        by_cases e3 : nI b - nI b / (2 : Int32) * (2 : Int32) = 0
        · rw [if_pos e3]
          have hnw : ¬ WdP K T n word := by
            rcases d2 word hwd with ⟨q, -⟩ | ⟨-, q⟩
            · exact absurd (q.symm.trans (show bit1 (aI P.2 ac 2) (nI word) = 0 from e2)) (by decide)
            · exact q
          obtain ⟨X1, z1, z2, z3, z4⟩ := m_word hS hR hn hwd ebr hnw
          have hO1 := hO.cl z4
          simp only [inb_sI, hO.c1, hO.c2, if_true, if_pos hx, z1, nTW_r, bi_some]
          rw [apC_sI, apC_sI, apC_ok hO1.2.2.2.1]
          simp only [inb_sI, hO.c0, if_true, yI_s, cl0, cl1, cl2, upN_if]
          rw [if_neg (show ¬ (0 : Nat) = 2 by decide), if_neg (show ¬ (0 : Nat) = 1 by decide), d0, if_pos rfl]
          refine ⟨_, _, _, _, _, rfl, h0.drf z2 z3 z4 rfl (LId.opw ⟨d0, d1, d2⟩ hwd ?_ ?_ ?_) (fun i h1 h2 => ?_) ?_ ?_⟩
          · rw [yI_s, yI_s, upN_o (by decide), upN_o (by decide), d0]
          · rw [yI_s, yI_s, upN_o (by decide), upN_s, opn_6, nI_1]
          · rw [yI_s, upN_s, if_neg (by decide)]
          · rw [yI_s, yI_s, upN_o (by omega), upN_o (by omega)]
          · rw [yI_o cp1.symm, yI_o cp1.symm]
          · rw [yI_o cp2.symm, yI_o cp2.symm]
        · rw [if_neg e3]
          exact hcall
      · rw [if_neg e2]
        exact hcall
    · rw [if_neg e1]
      exact hcall
  unfold fL_others
  rw [if_pos hO.c1, cl1, d1]
  by_cases e1 : nI (br K n).length ≤ 0
  · rw [if_pos e1]
    exact hl35
  · rw [if_neg e1]
    have h1 : 0 < (br K n).length := Nat.pos_of_ne_zero (fun q => e1 (by rw [q]; decide))
    by_cases e2 : nI b - nI b / (3 : Int32) * (3 : Int32) ≤ 0
    · rw [if_pos e2]
      exact hl35
    · rw [if_neg e2]
      have hne : br K n ≠ [] := fun q => by rw [q] at h1; exact absurd h1 (by decide)
      obtain ⟨X1, z1, z2, z3, z4⟩ := m_end hS hR hn hne
      have hO1 := hO.cl z4
      simp only [hO.c1, if_true, if_pos hx, z1, nTW_r, bi_some]
      rw [apC_sI, apC_ok hO1.2.2.2.1]
      simp only [inb_sI, hO.c1, if_true, yI_s, cl1, upN_if]
      have e9 : nI (br K n).length - 1 = nI ((br K n).length - 1) := by
        obtain ⟨j, hj⟩ : ∃ j, (br K n).length = j + 1 := ⟨(br K n).length - 1, by omega⟩
        rw [hj, nI_pred]
        rfl
      rw [e9, if_pos rfl]
      refine ⟨_, _, _, _, _, rfl, h0.drf z2 z3 z4 rfl (LId.op ⟨d0, d1, d2⟩ ?_ ?_ ?_ (by decide)) (fun i h1 h2 => ?_) ?_ ?_⟩
      · rw [yI_s, upN_o (by decide), d0]
      · rw [yI_s, upN_s, opn_8]
      · rw [yI_s, upN_o (by decide)]
      · rw [yI_s, upN_o (by omega)]
      · rw [yI_o cp1.symm]
      · rw [yI_o cp2.symm]
end OTH
