/-! write -/
theorem t_write {fu : Nat} (hfu : 100000000 ≤ fu) : sem_write Rel fu := by
  intro x X S q0 hR hF
  have hR0 := hR
  obtain ⟨A, ro, pa, ea, wa, K, T, V, N, n, np, G, ne, ew, eo, es, nw, wp, we, wc, wo, W, H, rfl, hX, hS, hP⟩ := hR
  have hX0 := hX
  obtain ⟨B, D, P, E, Wk, Wl, Hg⟩ := hX
  have hP0 := hP
  obtain ⟨pD, pP, pE, pW, pL⟩ := hP
  have hx := B.k 0 11 0 (by decide)
  obtain ⟨oa, d1, d2, d3, d4⟩ := D
  have hn := pD.1
  have hnp := pP.1
  obtain ⟨r, e1, e2⟩ := s_in (S := S) (v := q0) (N := 6) (by omega)
  have e1 : fX12_isIn S q0 0 5 = some r := e1
  have bad : ∀ v : Int32, ¬ v = 0 → fX12_write_L44 fu S q0 v = some (0, uc S 0 v) := by
    intro v hv
    unfold fX12_write_L44
    rw [s_holdN hv, bW_some, if_pos rfl]
  have l39 : fX12_write_L39 fu S q0 = some (0, uc S 0 2) := by
    unfold fX12_write_L39
    exact bad 2 (by decide)
  have sn : sc S 1 = nI n := hS.1.1
  have sb : sc S 2 = nI (br K n).length := hS.1.2.1
  have sp : sc S 8 = nI np := hS.2.1.1
  have hbl : (br K n).length ≤ 30 := by have := br_len (K := K) n; omega
  rcases x_pupil (X := X) q0 with ⟨hq, hc⟩ | ⟨hq, hc⟩
  · have er : r = 1 := TF_un e2 (Or.inl ⟨rfl, hq⟩)
    have sw : fX12_write fu S q0 = if nI n = 0 then some (0, uc S 0 2) else if 0 < nI (br K n).length then some (0, uc S 0 2) else if nI np = 30 then some (0, uc S 0 2) else fX12_write_L44 fu S q0 0 := by
      unfold fX12_write
      rw [e1, bi_some, er, if_neg n10, l39, sn, sb, sp]
    rw [sw]
    by_cases h0 : n = 0
    · subst h0
      have xw : fX11_write fu X (A 0) q0 = some (.inl "java/lang/IllegalStateException") := by
        unfold fX11_write fX1_length
        rw [hc, bE_r, if_pos hx, B.r 1100 0 1 (by decide), bi_some, if_pos d1.1, if_pos d1.1, bi_some, d1.2.2.2.1, if_pos (show nI 0 = 0 from rfl)]
      rw [if_pos (show nI 0 = 0 from rfl)]
      exact ⟨_, _, _, xw, rfl, sem_ex (i := 1) (by decide) (by decide) rfl (hR0.sk SK.t)⟩
    · rw [if_neg (nI_ne0 (by omega) (by omega))]
      by_cases hb : br K n = []
      · by_cases h3 : np = 30
        · have xw : fX11_write fu X (A 0) q0 = some (.inl "java/lang/IllegalStateException") := by
            unfold fX11_write fX1_length fX1_openBlocks
            rw [hc, bE_r, if_pos hx, B.r 1100 0 1 (by decide), bi_some, if_pos d1.1, if_pos d1.1, bi_some, d1.2.2.2.1, if_neg (nI_ne0 (by omega) (by omega)), bi_some, if_pos d1.1, if_pos d1.1, bi_some, d3, hb, if_pos (show nI ([] : List Nat).length ≤ 0 by decide), P.1, if_neg (nI_pos (by omega)), B.r 1105 0 6 (by decide), bi_some, alen_of (B.k 6 24 30 (by decide)) (by decide), bi_some, if_neg (fun z => by have := (nI_ltI (by omega) (by omega)).mp z; omega)]
          rw [hb, if_neg (show ¬ (0 : Int32) < nI ([] : List Nat).length by decide), if_pos (by rw [h3]; rfl)]
          exact ⟨_, _, _, xw, rfl, sem_ex (i := 1) (by decide) (by decide) rfl (hR0.sk SK.t)⟩
        · obtain ⟨X', ro', pa', k, a, b, c, d, w1, hB, w2, w3⟩ := x_write (fu := fu) hfu hF hX0 hP0 (by omega) hb (by omega) hc
          obtain ⟨S', v1, v2, v3⟩ := s_written (q := q0) hfu (by omega) hB pP (hS.sk (SK.t (v := 0)))
          have n3 : ¬ nI np = (30 : Int32) := fun z => h3 ((nI_eq (by omega) (by omega : 30 < 2 ^ 31)).mp z)
          have l44 : fX12_write_L44 fu S q0 0 = some (nI np, S') := by
            unfold fX12_write_L44
            rw [s_hold0, bW_some, if_neg n10, v1]
          rw [hb, if_neg (show ¬ (0 : Int32) < nI ([] : List Nat).length by decide), if_neg n3, l44]
          have pP1 : PrsP (np + 1) (upN G np (K, T, V, N, n, q0, k, a, b, c, d)) := ⟨by omega, fun p hp => by
            by_cases e : p = np
            · rw [e, upN_s]
              exact hB
            · rw [upN_o e]
              exact pP.2 p (by omega)⟩
          have pE1 : ExsP (np + 1) ne ew := ⟨pE.1, fun i hi => Nat.lt_succ_of_lt (pE.2 i hi)⟩
          have pW1 : WksP (np + 1) ne nw (upN G np (K, T, V, N, n, q0, k, a, b, c, d)) wp we wc wo := ⟨pW.1, fun i hi => ⟨Nat.lt_succ_of_lt (pW.2.1 i hi).1, (pW.2.1 i hi).2.1, OrgP_cg (pW.2.1 i hi).2.2 (fun v hv => by
            have h1 := (pW.2.1 i hi).1
            have h2 := (pW.2.1 v (by omega)).1
            unfold cpG
            rw [upN_o (by omega), upN_o (by omega)])⟩, pW.2.2.1, pW.2.2.2⟩
          exact ⟨_, _, _, w1, rfl, v2.trans rfl, rfl, ⟨A, ro', pa', ea, wa, K, T, V, N, 0, np + 1, upN G np (K, T, V, N, n, q0, k, a, b, c, d), ne, ew, eo, es, nw, wp, we, wc, wo, W, H, rfl, w2, v3, ⟨DrfP_0, pP1, pE1, pW1, pL⟩⟩, w3⟩
      · have hl : 0 < (br K n).length := by
          rcases e : br K n with _ | ⟨a, l⟩
          · exact absurd e hb
          · exact Nat.succ_pos _
        have xw : fX11_write fu X (A 0) q0 = some (.inl "java/lang/IllegalStateException") := by
          unfold fX11_write fX1_length fX1_openBlocks
          rw [hc, bE_r, if_pos hx, B.r 1100 0 1 (by decide), bi_some, if_pos d1.1, if_pos d1.1, bi_some, d1.2.2.2.1, if_neg (nI_ne0 (by omega) (by omega)), bi_some, if_pos d1.1, if_pos d1.1, bi_some, d3, if_neg (fun z => by have := (nI_leI (by omega) (by omega : 0 < 2 ^ 31)).mp z; omega)]
        rw [if_pos (show (0 : Int32) < nI (br K n).length from (nI_ltI (by omega : 0 < 2 ^ 31) (by omega)).mpr hl)]
        exact ⟨_, _, _, xw, rfl, sem_ex (i := 1) (by decide) (by decide) rfl (hR0.sk SK.t)⟩
  · have er : r = 0 := TF_un e2 (Or.inr ⟨rfl, hq⟩)
    have xw : fX11_write fu X (A 0) q0 = some (.inl "java/lang/IndexOutOfBoundsException") := by
      unfold fX11_write
      rw [hc, bE_l]
    have sw : fX12_write fu S q0 = some (0, uc S 0 1) := by
      unfold fX12_write
      rw [e1, bi_some, er, if_pos rfl, bad 1 (by decide)]
    exact ⟨_, _, _, xw, sw, sem_ex (i := 0) (by decide) (by decide) rfl (hR0.sk SK.t)⟩
