/-! WHAT IS ASKED of programs -/
theorem bE_r {α β : Type} {a : α} {k : α → Option (String ⊕ β)} : bE (some (.inr a)) k = k a := rfl
theorem bE_l {α β : Type} {E : String} {k : α → Option (String ⊕ β)} : bE (some (.inl E)) k = some (.inl E) := rfl
theorem bEW_r {α β γ : Type} {a : α} {b : β} {k : α → β → Option (String ⊕ γ)} : bEW (some (.inr (a, b))) k = k a b := rfl
theorem bEW_l {α β γ : Type} {E : String} {k : α → β → Option (String ⊕ γ)} : bEW (some (.inl E)) k = some (.inl E) := rfl
theorem TF_un {r r' : Int32} {P : Prop} (h : TF r P) (k : TF r' P) : r = r' := by
  rcases h with ⟨rfl, h⟩ | ⟨rfl, h⟩ <;> rcases k with ⟨rfl, k⟩ | ⟨rfl, k⟩
  · rfl
  · exact absurd h k
  · exact absurd k h
  · rfl
theorem TF.b {r : Int32} {P : Prop} (h : TF r P) : r = 0 ∨ r = 1 := h.elim (fun q => Or.inr q.1) (fun q => Or.inl q.1)
theorem sem_ex {ks : List String} {E : String} {i x : Nat} {X : Mem} {S : SM} {w : Int64} (hi : ks[i]? = some E) (hu : ∀ k, k < ks.length → ks[k]? = some E → k = i) (hs : sc S 0 = nI (i + 1)) (hR : Rel x X S) : semR Rel ks x X S (.inl E) w := ⟨List.mem_of_getElem? hi, fun k hk => by
  have q := (List.getElem?_eq_some_iff.mp hk).1
  rw [hu k q hk]
  exact hs, hR⟩
theorem K9 {X : Mem} : Keeps9 X X := ⟨Nat.le_refl _, fun _ _ => rfl⟩
theorem s_hold0 {S : SM} : fX12_holds S 0 = some (1, uc S 0 0) := if_pos rfl
theorem s_holdN {S : SM} {v : Int32} (h : ¬ v = 0) : fX12_holds S v = some (0, uc S 0 v) := if_neg h
theorem s_in {S : SM} {v : Int32} {N : Nat} (hN : N < 2 ^ 29) : ∃ r, fX12_isIn S v 0 (nI N - 1) = some r ∧ TF r (∃ j, j < N ∧ v = nI j) := by
  rw [q_isIn]
  by_cases h : (0 : Int32) ≤ v ∧ v ≤ nI N - 1
  · refine ⟨1, by rw [if_pos h], Or.inl ⟨rfl, ?_⟩⟩
    obtain ⟨j, hj, rfl⟩ := nI_of (fun q => Int32.lt_irrefl (Int32.lt_of_lt_of_le q h.1))
    have q := Int32.le_iff_toInt_le.mp h.2
    rw [show (1 : Int32) = nI 1 from rfl, pk_sub_toInt (by omega) (by omega), nI_toInt hj] at q
    exact ⟨j, by omega, rfl⟩
  · refine ⟨0, by rw [if_neg h], Or.inr ⟨rfl, ?_⟩⟩
    rintro ⟨j, hj, rfl⟩
    refine h ⟨nI_pos' (by omega), Int32.le_iff_toInt_le.mpr ?_⟩
    rw [show (1 : Int32) = nI 1 from rfl, pk_sub_toInt (by omega) (by omega), nI_toInt (by omega)]
    omega
theorem s_in01 {S : SM} {v : Int32} {N : Nat} (hN : N < 2 ^ 29) : ∃ r, (Option.bind (fX12_isIn S v 0 (nI N - 1)) fun v8 => (if v8 = 0 ∨ v8 = 1 then (some v8) else none)) = some r ∧ TF r (∃ j, j < N ∧ v = nI j) := by
  obtain ⟨r, h1, h2⟩ := s_in (S := S) (v := v) hN
  exact ⟨r, by rw [h1, bi_some, if_pos h2.b], h2⟩
theorem s_prog {S : SM} {np : Nat} {v : Int32} (h : sc S 8 = nI np) (hn : np ≤ 30) : ∃ r, fX12_isProgram S v = some r ∧ TF r (∃ j, j < np ∧ v = nI j) := by
  unfold fX12_isProgram
  rw [h]
  exact s_in01 (by omega)
theorem s_exer {S : SM} {ne : Nat} {v : Int32} (h : sc S 37 = nI ne) (hn : ne ≤ 6) : ∃ r, fX12_isExercise S v = some r ∧ TF r (∃ j, j < ne ∧ v = nI j) := by
  unfold fX12_isExercise
  rw [h]
  exact s_in01 (by omega)
theorem s_work {S : SM} {nw : Nat} {v : Int32} (h : sc S 41 = nI nw) (hn : nw ≤ 24) : ∃ r, fX12_isWork S v = some r ∧ TF r (∃ j, j < nw ∧ v = nI j) := by
  unfold fX12_isWork
  rw [h]
  exact s_in01 (by omega)
section ASK
variable {fu : Nat} {A ro pa ea wa : Nat → Nat} {K T V N : Nat → Int32} {n np : Nat} {G : Nat → Pg} {ne : Nat} {ew : Nat → Nat} {eo es : Nat → Int32} {nw : Nat} {wp we : Nat → Nat} {wc : Nat → Int32} {wo : Nat → Option Nat} {W H : Nat} {X : Mem} {S : SM}
theorem x_prog (B : BaseX A ro X) (P : PrsX A ro pa np G X) (hn : np ≤ 30) (v : Int32) : (∃ p, p < np ∧ v = nI p ∧ fX11_programAt X (A 0) v = some (.inr (some (pa p)))) ∨ ((¬ ∃ j, j < np ∧ v = nI j) ∧ fX11_programAt X (A 0) v = some (.inl "java/lang/IndexOutOfBoundsException")) := by
  have hx := B.k 0 11 0 (by decide)
  have hno : fX11_programAt_L30 X none = some (.inl "java/lang/IndexOutOfBoundsException") := if_pos rfl
  unfold fX11_programAt
  rcases pk_ix v (show np < 2 ^ 31 by omega) with h | h | ⟨j, hj, rfl⟩
  · refine Or.inr ⟨?_, by rw [if_pos h, hno]⟩
    rintro ⟨j, hj, rfl⟩
    exact nI_pos (by omega) h
  · refine Or.inr ⟨?_, ?_⟩
    · rintro ⟨j, hj, rfl⟩
      have := (nI_leI (by omega) (by omega)).mp h
      omega
    · by_cases h0 : v < 0
      · rw [if_pos h0, hno]
      · rw [if_neg h0, if_pos hx, P.1, if_pos h, hno]
  · refine Or.inl ⟨j, hj, rfl, ?_⟩
    obtain ⟨a1, a2⟩ := P.2 j hj
    rw [if_neg (nI_pos (by omega)), if_pos hx, P.1, if_neg (fun q => by have := (nI_leI (by omega) (by omega)).mp q; omega), B.r 1105 0 6 (by decide), bi_some, alen_of (B.k 6 24 30 (by decide)) (by decide), bi_some, if_neg (fun q => by have := (nI_leI (by omega) (by omega)).mp q; omega), bi_some, if_pos (inb_of (t := 4) (B.k 6 24 30 (by decide)) (by omega : j < 30) (by omega)), nI_clamp (by omega), a1]
    unfold fX11_programAt_L30
    rw [if_neg (by exact fun q => nomatch q)]
theorem x_exer (B : BaseX A ro X) (P : ExsX A ro pa ea ne ew eo es X) (hn : ne ≤ 6) (v : Int32) : (∃ p, p < ne ∧ v = nI p ∧ fX11_exerciseAt X (A 0) v = some (.inr (some (ea p)))) ∨ ((¬ ∃ j, j < ne ∧ v = nI j) ∧ fX11_exerciseAt X (A 0) v = some (.inl "java/lang/IndexOutOfBoundsException")) := by
  have hx := B.k 0 11 0 (by decide)
  have hno : fX11_exerciseAt_L30 X none = some (.inl "java/lang/IndexOutOfBoundsException") := if_pos rfl
  unfold fX11_exerciseAt
  rcases pk_ix v (show ne < 2 ^ 31 by omega) with h | h | ⟨j, hj, rfl⟩
  · refine Or.inr ⟨?_, by rw [if_pos h, hno]⟩
    rintro ⟨j, hj, rfl⟩
    exact nI_pos (by omega) h
  · refine Or.inr ⟨?_, ?_⟩
    · rintro ⟨j, hj, rfl⟩
      have := (nI_leI (by omega) (by omega)).mp h
      omega
    · by_cases h0 : v < 0
      · rw [if_pos h0, hno]
      · rw [if_neg h0, if_pos hx, P.1, if_pos h, hno]
  · refine Or.inl ⟨j, hj, rfl, ?_⟩
    obtain ⟨a1, a2⟩ := P.2.2 j hj
    rw [if_neg (nI_pos (by omega)), if_pos hx, P.1, if_neg (fun q => by have := (nI_leI (by omega) (by omega)).mp q; omega), B.r 1106 0 7 (by decide), bi_some, alen_of (B.k 7 25 6 (by decide)) (by decide), bi_some, if_neg (fun q => by have := (nI_leI (by omega) (by omega)).mp q; omega), bi_some, if_pos (inb_of (t := 5) (B.k 7 25 6 (by decide)) (by omega : j < 6) (by omega)), nI_clamp (by omega), a1]
    unfold fX11_exerciseAt_L30
    rw [if_neg (by exact fun q => nomatch q)]
theorem x_work (B : BaseX A ro X) (P : WksX A ro pa ea wa nw wp we wc wo X) (hn : nw ≤ 24) (v : Int32) : (∃ p, p < nw ∧ v = nI p ∧ fX11_workAt X (A 0) v = some (.inr (some (wa p)))) ∨ ((¬ ∃ j, j < nw ∧ v = nI j) ∧ fX11_workAt X (A 0) v = some (.inl "java/lang/IndexOutOfBoundsException")) := by
  have hx := B.k 0 11 0 (by decide)
  have hno : fX11_workAt_L30 X none = some (.inl "java/lang/IndexOutOfBoundsException") := if_pos rfl
  unfold fX11_workAt
  rcases pk_ix v (show nw < 2 ^ 31 by omega) with h | h | ⟨j, hj, rfl⟩
  · refine Or.inr ⟨?_, by rw [if_pos h, hno]⟩
    rintro ⟨j, hj, rfl⟩
    exact nI_pos (by omega) h
  · refine Or.inr ⟨?_, ?_⟩
    · rintro ⟨j, hj, rfl⟩
      have := (nI_leI (by omega) (by omega)).mp h
      omega
    · by_cases h0 : v < 0
      · rw [if_pos h0, hno]
      · rw [if_neg h0, if_pos hx, P.1, if_pos h, hno]
  · refine Or.inl ⟨j, hj, rfl, ?_⟩
    obtain ⟨a1, a2⟩ := P.2.2 j hj
    rw [if_neg (nI_pos (by omega)), if_pos hx, P.1, if_neg (fun q => by have := (nI_leI (by omega) (by omega)).mp q; omega), B.r 1107 0 8 (by decide), bi_some, alen_of (B.k 8 26 24 (by decide)) (by decide), bi_some, if_neg (fun q => by have := (nI_leI (by omega) (by omega)).mp q; omega), bi_some, if_pos (inb_of (t := 6) (B.k 8 26 24 (by decide)) (by omega : j < 24) (by omega)), nI_clamp (by omega), a1]
    unfold fX11_workAt_L30
    rw [if_neg (by exact fun q => nomatch q)]
end ASK
/-! drafted, programs, works; fault, steps, strokes -/
theorem t_drafted {fu : Nat} : sem_drafted Rel fu := by
  intro x X S hR hF
  have hR0 := hR
  obtain ⟨A, ro, pa, ea, wa, K, T, V, N, n, np, G, ne, ew, eo, es, nw, wp, we, wc, wo, W, H, rfl, ⟨B, D, P, E, Wk, Wl, Hg⟩, ⟨sD, sP, sE, sW, sL, s18⟩, ⟨pD, pP, pE, pW, pL⟩⟩ := hR
  obtain ⟨oa, d1, d2⟩ := D
  refine ⟨nI n, uc S 0 0, ?_, ?_, hR0.sk SK.t⟩
  · unfold fX11_drafted fX1_length
    rw [if_pos (B.k 0 11 0 (by decide)), B.r 1100 0 1 (by decide), bi_some, if_pos d1.1, if_pos d1.1, bi_some, d1.2.2.2.1]
  · unfold fX12_drafted
    rw [sc_uc, if_neg (by decide), sD.1]
theorem t_programs {fu : Nat} : sem_programs Rel fu := by
  intro x X S hR hF
  have hR0 := hR
  obtain ⟨A, ro, pa, ea, wa, K, T, V, N, n, np, G, ne, ew, eo, es, nw, wp, we, wc, wo, W, H, rfl, ⟨B, D, P, E, Wk, Wl, Hg⟩, ⟨sD, sP, sE, sW, sL, s18⟩, ⟨pD, pP, pE, pW, pL⟩⟩ := hR
  refine ⟨nI np, uc S 0 0, ?_, ?_, hR0.sk SK.t⟩
  · unfold fX11_programs
    rw [if_pos (B.k 0 11 0 (by decide)), P.1]
  · unfold fX12_programs
    rw [sc_uc, if_neg (by decide), sP.1]
theorem t_works {fu : Nat} : sem_works Rel fu := by
  intro x X S hR hF
  have hR0 := hR
  obtain ⟨A, ro, pa, ea, wa, K, T, V, N, n, np, G, ne, ew, eo, es, nw, wp, we, wc, wo, W, H, rfl, ⟨B, D, P, E, Wk, Wl, Hg⟩, ⟨sD, sP, sE, sW, sL, s18⟩, ⟨pD, pP, pE, pW, pL⟩⟩ := hR
  refine ⟨nI nw, uc S 0 0, ?_, ?_, hR0.sk SK.t⟩
  · unfold fX11_works
    rw [if_pos (B.k 0 11 0 (by decide)), Wk.1]
  · unfold fX12_works
    rw [sc_uc, if_neg (by decide), sW.1]
theorem t_fault {fu : Nat} : sem_fault Rel fu := by
  intro x X S q0 hR hF
  have hR0 := hR
  obtain ⟨A, ro, pa, ea, wa, K, T, V, N, n, np, G, ne, ew, eo, es, nw, wp, we, wc, wo, W, H, rfl, ⟨B, D, P, E, Wk, Wl, Hg⟩, ⟨sD, sP, sE, sW, sL, s18⟩, ⟨pD, pP, pE, pW, pL⟩⟩ := hR
  have b1 := pP.1
  have hx := B.k 0 11 0 (by decide)
  obtain ⟨r, e1, e2⟩ := s_prog (v := q0) sP.1 b1
  unfold fX11_fault fX12_fault fX12_fault_L14
  rw [if_pos hx, e1, bi_some]
  rcases x_prog B P b1 q0 with ⟨p, hp, rfl, e⟩ | ⟨hn, e⟩
  · obtain ⟨os, pa9, wa9, fo, dr, ra, ua, oa, h1, h2, h3, h4, h5, -⟩ := (P.2 p hp).2
    have er : r = 1 := TF_un e2 (Or.inl ⟨rfl, p, hp, rfl⟩)
    rw [e, bE_r, bi_some, if_pos h1.1.1, h3, er, if_neg (by decide), s_hold0, bW_some, if_neg (by decide), if_pos (inS_ok (by decide) rfl (by show p < 30; omega) (by decide)), nI_clamp (by omega), ar_uc, (sP.2 p hp).2.2.1]
    exact ⟨_, _, _, rfl, rfl, rfl, rfl, hR0.sk SK.t, K9⟩
  · have er : r = 0 := TF_un e2 (Or.inr ⟨rfl, hn⟩)
    rw [e, bE_l, er, if_pos rfl, s_holdN (by decide), bW_some, if_pos rfl]
    exact ⟨_, _, _, rfl, rfl, sem_ex (i := 0) (by decide) (by decide) rfl (hR0.sk SK.t)⟩
theorem t_steps {fu : Nat} : sem_steps Rel fu := by
  intro x X S q0 hR hF
  have hR0 := hR
  obtain ⟨A, ro, pa, ea, wa, K, T, V, N, n, np, G, ne, ew, eo, es, nw, wp, we, wc, wo, W, H, rfl, ⟨B, D, P, E, Wk, Wl, Hg⟩, ⟨sD, sP, sE, sW, sL, s18⟩, ⟨pD, pP, pE, pW, pL⟩⟩ := hR
  have b1 := pP.1
  have hx := B.k 0 11 0 (by decide)
  obtain ⟨r, e1, e2⟩ := s_prog (v := q0) sP.1 b1
  unfold fX11_steps fX12_steps fX12_steps_L14
  rw [if_pos hx, e1, bi_some]
  rcases x_prog B P b1 q0 with ⟨p, hp, rfl, e⟩ | ⟨hn, e⟩
  · obtain ⟨os, pa9, wa9, fo, dr, ra, ua, oa, h1, h2, h3, h4, h5, -⟩ := (P.2 p hp).2
    have er : r = 1 := TF_un e2 (Or.inl ⟨rfl, p, hp, rfl⟩)
    rw [e, bE_r, bi_some, if_pos h1.1.1, h4, er, if_neg (by decide), s_hold0, bW_some, if_neg (by decide), if_pos (inS_ok (by decide) rfl (by show p < 30; omega) (by decide)), nI_clamp (by omega), ar_uc, (sP.2 p hp).2.2.2.1]
    exact ⟨_, _, _, rfl, rfl, rfl, rfl, hR0.sk SK.t, K9⟩
  · have er : r = 0 := TF_un e2 (Or.inr ⟨rfl, hn⟩)
    rw [e, bE_l, er, if_pos rfl, s_holdN (by decide), bW_some, if_pos rfl]
    exact ⟨_, _, _, rfl, rfl, sem_ex (i := 0) (by decide) (by decide) rfl (hR0.sk SK.t)⟩
theorem t_strokes {fu : Nat} : sem_strokes Rel fu := by
  intro x X S q0 hR hF
  have hR0 := hR
  obtain ⟨A, ro, pa, ea, wa, K, T, V, N, n, np, G, ne, ew, eo, es, nw, wp, we, wc, wo, W, H, rfl, ⟨B, D, P, E, Wk, Wl, Hg⟩, ⟨sD, sP, sE, sW, sL, s18⟩, ⟨pD, pP, pE, pW, pL⟩⟩ := hR
  have b1 := pP.1
  have hx := B.k 0 11 0 (by decide)
  obtain ⟨r, e1, e2⟩ := s_prog (v := q0) sP.1 b1
  unfold fX11_strokes fX12_strokes fX12_strokes_L14
  rw [if_pos hx, e1, bi_some]
  rcases x_prog B P b1 q0 with ⟨p, hp, rfl, e⟩ | ⟨hn, e⟩
  · obtain ⟨os, pa9, wa9, fo, dr, ra, ua, oa, h1, h2, h3, h4, h5, -⟩ := (P.2 p hp).2
    have er : r = 1 := TF_un e2 (Or.inl ⟨rfl, p, hp, rfl⟩)
    rw [e, bE_r, bi_some, if_pos h1.1.1, h1.2.2.2.2.2.1, bi_some, if_pos h5.1, h5.2.2.2.2.2.1, er, if_neg (by decide), s_hold0, bW_some, if_neg (by decide), if_pos (inS_ok (by decide) rfl (by show p < 30; omega) (by decide)), nI_clamp (by omega), ar_uc, (sP.2 p hp).2.2.2.2.1]
    exact ⟨_, _, _, rfl, rfl, rfl, rfl, hR0.sk SK.t, K9⟩
  · have er : r = 0 := TF_un e2 (Or.inr ⟨rfl, hn⟩)
    rw [e, bE_l, er, if_pos rfl, s_holdN (by decide), bW_some, if_pos rfl]
    exact ⟨_, _, _, rfl, rfl, sem_ex (i := 0) (by decide) (by decide) rfl (hR0.sk SK.t)⟩
theorem s_two {S : SM} {np : Nat} {u v : Int32} (h : sc S 8 = nI np) (hn : np ≤ 30) : ((∃ j, j < np ∧ u = nI j) ∧ (∃ j, j < np ∧ v = nI j) ∧ fX12_areTwo S u v = some (1, uc S 0 0)) ∨ (¬ ((∃ j, j < np ∧ u = nI j) ∧ ∃ j, j < np ∧ v = nI j) ∧ fX12_areTwo S u v = some (0, uc S 0 1)) := by
  obtain ⟨r, e1, e2⟩ := s_prog (v := u) h hn
  obtain ⟨r', f1, f2⟩ := s_prog (v := v) h hn
  unfold fX12_areTwo fX12_areTwo_L21 fX12_areTwo_L22
  rw [e1, bi_some, f1, bi_some]
  rcases e2 with ⟨rfl, e2⟩ | ⟨rfl, e2⟩
  · rw [if_neg (by decide)]
    rcases f2 with ⟨rfl, f2⟩ | ⟨rfl, f2⟩
    · rw [if_neg (by decide), s_hold0, bW_some, if_pos (Or.inr rfl)]
      exact Or.inl ⟨e2, f2, rfl⟩
    · rw [if_pos rfl, s_holdN (by decide), bW_some, if_pos (Or.inl rfl)]
      exact Or.inr ⟨fun q => f2 q.2, rfl⟩
  · rw [if_pos rfl, s_holdN (by decide), bW_some, if_pos (Or.inl rfl)]
    exact Or.inr ⟨fun q => e2 q.1, rfl⟩
theorem t_areAlike {fu : Nat} (hfu : 5000 ≤ fu) : sem_areAlike Rel fu := by
  intro x X S q0 q1 hR hF
  have hR0 := hR
  obtain ⟨A, ro, pa, ea, wa, K, T, V, N, n, np, G, ne, ew, eo, es, nw, wp, we, wc, wo, W, H, rfl, ⟨B, D, P, E, Wk, Wl, Hg⟩, ⟨sD, sP, sE, sW, sL, s18⟩, ⟨pD, pP, pE, pW, pL⟩⟩ := hR
  have b1 := pP.1
  have hx := B.k 0 11 0 (by decide)
  unfold fX11_areAlike fX12_areAlike
  rw [if_pos hx]
  have bad : ¬ ((∃ j, j < np ∧ q0 = nI j) ∧ ∃ j, j < np ∧ q1 = nI j) → ∃ bv S', (bW (fX12_areTwo S q0 q1) fun v3 X3 => (if v3 = 0 then (some ((0 : Int32), X3)) else (Option.bind (fX12_alike fu X3 q0 q1) fun v12 => (if v12 = 0 then (some ((0 : Int32), X3)) else (some ((1 : Int32), X3)))))) = some (bv, S') ∧ semR Rel ["java/lang/IndexOutOfBoundsException"] (A 0) X S' (.inl "java/lang/IndexOutOfBoundsException") (if bv = 0 then (0 : Int64) else 1) := by
    intro hb
    rcases s_two (u := q0) (v := q1) sP.1 b1 with ⟨f1, f2, f3⟩ | ⟨f1, f2⟩
    · exact absurd ⟨f1, f2⟩ hb
    · rw [f2, bW_some, if_pos rfl]
      exact ⟨_, _, rfl, sem_ex (i := 0) (by decide) (by decide) rfl (hR0.sk SK.t)⟩
  rcases x_prog B P b1 q0 with ⟨p, hp, rfl, e⟩ | ⟨hn, e⟩
  · rw [e, bE_r]
    rcases x_prog B P b1 q1 with ⟨q, hq, rfl, e'⟩ | ⟨hn, e'⟩
    · obtain ⟨dr, dr', s1, s2, s3, r, s4, s5⟩ := x_shift (fu := fu) (by omega) (P.2 p hp).2 (P.2 q hq).2 (pP.2 p hp) (pP.2 q hq)
      obtain ⟨os, pa9, wa9, fo, dr9, ra, ua, oa, h1, -⟩ := (P.2 p hp).2
      obtain ⟨os', pa9', wa9', fo', dr9', ra', ua', oa', h1', -⟩ := (P.2 q hq).2
      rcases s_two (u := nI p) (v := nI q) sP.1 b1 with ⟨f1, f2, f3⟩ | ⟨f1, f2⟩
      · obtain ⟨r', k1, k2⟩ := s_alike (fu := fu) (by omega) (sP.sk (SK.t (v := 0))) pP hp hq
        rw [e', bE_r, bi_some, if_pos h1.1.1, bi_some, if_pos h1'.1.1, s1, bi_some, if_pos s2, s3, s4, bi_some, if_pos s5.b, f3, bW_some, if_neg (by decide), k1, bi_some, TF_un k2 s5]
        rcases s5.b with rfl | rfl
        · rw [if_pos rfl]
          exact ⟨_, _, _, rfl, rfl, rfl, rfl, hR0.sk SK.t, K9⟩
        · rw [if_neg (by decide)]
          exact ⟨_, _, _, rfl, rfl, rfl, rfl, hR0.sk SK.t, K9⟩
      · exact absurd ⟨⟨p, hp, rfl⟩, ⟨q, hq, rfl⟩⟩ f1
    · obtain ⟨bv, S', z1, z2⟩ := bad (fun z => hn z.2)
      rw [e', bE_l]
      exact ⟨_, bv, S', rfl, z1, z2⟩
  · obtain ⟨bv, S', z1, z2⟩ := bad (fun z => hn z.1)
    rw [e, bE_l]
    exact ⟨_, bv, S', rfl, z1, z2⟩
