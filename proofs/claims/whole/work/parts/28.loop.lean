/-! THE LAW's LOOP AND ITS ENTRY -/
def Sems (Rel : Nat → Mem → SM → Prop) (fu : Nat) : Prop := sem_forward Rel fu ∧ sem_turn Rel fu ∧ sem_pen Rel fu ∧ sem_set Rel fu ∧ sem_add Rel fu ∧ sem_repeat Rel fu ∧ sem_word Rel fu ∧ sem_call Rel fu ∧ sem_end Rel fu ∧ sem_wipe Rel fu ∧ sem_write Rel fu ∧ sem_exercise Rel fu ∧ sem_allow Rel fu ∧ sem_handIn Rel fu ∧ sem_clear Rel fu ∧ sem_setWall Rel fu ∧ sem_drafted Rel fu ∧ sem_programs Rel fu ∧ sem_fault Rel fu ∧ sem_steps Rel fu ∧ sem_strokes Rel fu ∧ sem_strokesBySteps Rel fu ∧ sem_isDrawn Rel fu ∧ sem_areAlike Rel fu ∧ sem_haveOneForm Rel fu ∧ sem_likeness Rel fu ∧ sem_works Rel fu ∧ sem_meets Rel fu ∧ sem_copyOf Rel fu ∧ sem_hangs Rel fu ∧ sem_onWall Rel fu ∧ sem_hung Rel fu
theorem and31 (w : Int32) : w &&& 31 = 0 ∨ w &&& 31 = 1 ∨ w &&& 31 = 2 ∨ w &&& 31 = 3 ∨ w &&& 31 = 4 ∨ w &&& 31 = 5 ∨ w &&& 31 = 6 ∨ w &&& 31 = 7 ∨ w &&& 31 = 8 ∨ w &&& 31 = 9 ∨ w &&& 31 = 10 ∨ w &&& 31 = 11 ∨ w &&& 31 = 12 ∨ w &&& 31 = 13 ∨ w &&& 31 = 14 ∨ w &&& 31 = 15 ∨ w &&& 31 = 16 ∨ w &&& 31 = 17 ∨ w &&& 31 = 18 ∨ w &&& 31 = 19 ∨ w &&& 31 = 20 ∨ w &&& 31 = 21 ∨ w &&& 31 = 22 ∨ w &&& 31 = 23 ∨ w &&& 31 = 24 ∨ w &&& 31 = 25 ∨ w &&& 31 = 26 ∨ w &&& 31 = 27 ∨ w &&& 31 = 28 ∨ w &&& 31 = 29 ∨ w &&& 31 = 30 ∨ w &&& 31 = 31 := by
  obtain ⟨j, hj, e⟩ := pk_andE w (m := 31) 5 (by decide)
  rw [e]
  have key : ∀ j : Nat, j < 32 → (nI j = 0 ∨ nI j = 1 ∨ nI j = 2 ∨ nI j = 3 ∨ nI j = 4 ∨ nI j = 5 ∨ nI j = 6 ∨ nI j = 7 ∨ nI j = 8 ∨ nI j = 9 ∨ nI j = 10 ∨ nI j = 11 ∨ nI j = 12 ∨ nI j = 13 ∨ nI j = 14 ∨ nI j = 15 ∨ nI j = 16 ∨ nI j = 17 ∨ nI j = 18 ∨ nI j = 19 ∨ nI j = 20 ∨ nI j = 21 ∨ nI j = 22 ∨ nI j = 23 ∨ nI j = 24 ∨ nI j = 25 ∨ nI j = 26 ∨ nI j = 27 ∨ nI j = 28 ∨ nI j = 29 ∨ nI j = 30 ∨ nI j = 31) := by decide +kernel
  exact key j hj
theorem lp_in {Ls k c : Nat} (hL : Ls ≤ 2560) (h : 5 * k + 5 ≤ Ls) (hc : c < 5) : vp_in (nI (5 * k) + nI c) Ls := by
  rw [nI_add]
  exact vp_in_nI (by omega) (by omega)
theorem lp_gt {Ls k : Nat} (hL : Ls ≤ 2560) (hk : 5 * k ≤ Ls) : (nI Ls - 5 < nI (5 * k)) ↔ Ls < 5 * k + 5 := by
  have e : (nI Ls - 5).toInt = (Ls : Int) - 5 := pk_sub_toInt (a := Ls) (b := 5) (by omega) (by omega)
  rw [Int32.lt_iff_toInt_lt, e, nI_toInt (by omega)]
  omega
set_option maxRecDepth 100000 in
set_option maxHeartbeats 4000000 in
theorem law_loop {D : DD} {ev : EV} {Q : State → Prop} {Rel : Nat → Mem → SM → Prop} {fu b x m oa Ls : Nat} {xs : Nat → Int32} (hrz : ∀ x X S z, Rel x X S → Rel x (zM X z) S) (hrk : ∀ x X S, Rel x X S → mK X x = some (11, 0)) (sems : Sems Rel fu) (B : Amb D (A0L ev) ev RL "law" cL_law 7 (some .boolean) room_1) (hnc : EvNc ev) (hs : ScrL ev b Ls xs) (hL : Ls ≤ 2560)
  (hend : ∀ X cs sl L, cs ≤ 601024 → sl ≤ 7293034 → Gd D (A0L ev) ev Q X cs sl 2222 L [vI 1]) : ∀ (n k : Nat) (X : Mem) (g : Nat → Int64) (S : SM) (cs sl : Nat), 5 * k ≤ Ls → Ls < 5 * (k + n) → cs + 16 * n ≤ 601024 → sl + 200 * n ≤ 7293034 → Rel x X S → LD X oa m → Gd D (A0L ev) ev Q (LM X oa g m S) cs sl 23 [(0, vA (some b)), (1, vA (some x)), (2, vA (some m)), (3, vA (some oa)), (4, vI (nI (5 * k)))] [] := by
  intro n
  induction n with
  | zero =>
    intro k X g S cs sl hk hn hcs hsl hrel hLD
    omega
  | succ n ih =>
    intro k X g S cs sl hk hn hcs hsl hrel hLD
    refine g_iload (pc := 23) B dL_law_23 4 rfl ?_
    refine g_aload_n (pc := 25) B dL_law_25 0 rfl ?_
    refine g_slen (pc := 26) B hs dL_law_26 ?_
    refine g_iconst (pc := 27) B dL_law_27 (5 : Int32) (by decide) ?_
    refine g_isub (pc := 28) B dL_law_28 ?_
    refine g_icmp_gt (pc := 29) (tgt := 2221) B dL_law_29 (by decide) (fun _ => ?_) (fun hle => ?_)
    · refine g_iconst (pc := 2221) B dL_law_2221 (1 : Int32) (by decide) ?_
      exact hend _ _ _ _ (by omega) (by omega)
    have h5 : 5 * k + 5 ≤ Ls := by
      refine Nat.le_of_not_lt fun q => hle ((lp_gt hL hk).mpr q)
    refine g_aload_n (pc := 32) B dL_law_32 0 rfl ?_
    refine g_iload (pc := 33) B dL_law_33 4 rfl ?_
    refine g_sld (pc := 35) (w := xs (nI (5 * k)).toNatClampNeg) B hs (vp_in_nI (by omega) (by omega)) rfl dL_law_35 ?_
    refine g_bipush (pc := 36) B dL_law_36 (31 : Int32) (by decide) ?_
    refine g_iand (pc := 38) B dL_law_38 ?_
    have e5 : nI (5 * k) + 5 = nI (5 * (k + 1)) := (nI_add (5 * k) 5)
    have hi1 : vp_in (nI (5 * k) + (1 : Int32)) Ls := lp_in hL h5 (c := 1) (by decide)
    have hi2 : vp_in (nI (5 * k) + (2 : Int32)) Ls := lp_in hL h5 (c := 2) (by decide)
    have hi3 : vp_in (nI (5 * k) + (3 : Int32)) Ls := lp_in hL h5 (c := 3) (by decide)
    have hi4 : vp_in (nI (5 * k) + (4 : Int32)) Ls := lp_in hL h5 (c := 4) (by decide)
    have next : ∀ (X' : Mem) (g' : Nat → Int64) (S' : SM), Rel x X' S' → LD X' oa m → ∀ cs' sl', cs' ≤ cs + 16 → sl' ≤ sl + 200 → Gd D (A0L ev) ev Q (LM X' oa g' m S') cs' sl' 2215 [(0, vA (some b)), (1, vA (some x)), (2, vA (some m)), (3, vA (some oa)), (4, vI (nI (5 * k)))] [] := by
      intro X' g' S' hrel' hLD' cs' sl' h1 h2
      refine g_iinc (pc := 2215) (L' := [(4, vI (nI (5 * (k + 1)))), (0, vA (some b)), (1, vA (some x)), (2, vA (some m)), (3, vA (some oa))]) B dL_law_2215 (by decide) 4 rfl e5 rfl ?_
      refine g_goto (pc := 2218) (tgt := 23) B dL_law_2218 (by decide) ?_
      refine g_sub (pc := 23) [1, 2, 3, 4, 0] rfl ?_
      exact ih (k + 1) X' g' S' cs' sl' (by omega) (by omega) (by omega) (by omega) hrel' hLD'
    have hf : cs + 16 ≤ room_1.cells ∧ sl + 200 ≤ room_1.slots := ⟨by show cs + 16 ≤ 601024; omega, by show sl + 200 ≤ 7293034; omega⟩
    have hf0 : cs ≤ room_1.cells ∧ sl ≤ room_1.slots := ⟨by have := hf.1; omega, by have := hf.2; omega⟩
    obtain ⟨sm0, sm1, sm2, sm3, sm4, sm5, sm6, sm7, sm8, sm9, sm10, sm11, sm12, sm13, sm14, sm15, sm16, sm17, sm18, sm19, sm20, sm21, sm22, sm23, sm24, sm25, sm26, sm27, sm28, sm29, sm30, sm31⟩ := sems
    rcases and31 (xs (nI (5 * k)).toNatClampNeg) with ec | ec | ec | ec | ec | ec | ec | ec | ec | ec | ec | ec | ec | ec | ec | ec | ec | ec | ec | ec | ec | ec | ec | ec | ec | ec | ec | ec | ec | ec | ec | ec
    · rw [ec]
      refine g_tableIn (pc := 39) (tgt := 180) (off := 141) B dL_law_39 (by decide) (by decide) (by decide) (by decide) ?_
      exact lc_forward hrz hrk sm0 B hnc hs hi1 hi2 rfl rfl hrel hLD hf (fun X' g' S' h1 h2 => next X' g' S' h1 h2 _ _ (by omega) (by omega))
    · rw [ec]
      refine g_tableIn (pc := 39) (tgt := 264) (off := 225) B dL_law_39 (by decide) (by decide) (by decide) (by decide) ?_
      exact lc_turn hrz hrk sm1 B hnc hs hi1 hi2 rfl rfl hrel hLD hf (fun X' g' S' h1 h2 => next X' g' S' h1 h2 _ _ (by omega) (by omega))
    · rw [ec]
      refine g_tableIn (pc := 39) (tgt := 348) (off := 309) B dL_law_39 (by decide) (by decide) (by decide) (by decide) ?_
      exact lc_pen hrz hrk sm2 B hnc hs hi1 rfl hrel hLD hf (fun X' g' S' h1 h2 => next X' g' S' h1 h2 _ _ (by omega) (by omega))
    · rw [ec]
      refine g_tableIn (pc := 39) (tgt := 420) (off := 381) B dL_law_39 (by decide) (by decide) (by decide) (by decide) ?_
      exact lc_set hrz hrk sm3 B hnc hs hi1 hi2 hi3 rfl rfl rfl hrel hLD hf (fun X' g' S' h1 h2 => next X' g' S' h1 h2 _ _ (by omega) (by omega))
    · rw [ec]
      refine g_tableIn (pc := 39) (tgt := 516) (off := 477) B dL_law_39 (by decide) (by decide) (by decide) (by decide) ?_
      exact lc_add hrz hrk sm4 B hnc hs hi1 hi2 hi3 rfl rfl rfl hrel hLD hf (fun X' g' S' h1 h2 => next X' g' S' h1 h2 _ _ (by omega) (by omega))
    · rw [ec]
      refine g_tableIn (pc := 39) (tgt := 612) (off := 573) B dL_law_39 (by decide) (by decide) (by decide) (by decide) ?_
      exact lc_repeat hrz hrk sm5 B hnc hs hi1 hi2 rfl rfl hrel hLD hf (fun X' g' S' h1 h2 => next X' g' S' h1 h2 _ _ (by omega) (by omega))
    · rw [ec]
      refine g_tableIn (pc := 39) (tgt := 696) (off := 657) B dL_law_39 (by decide) (by decide) (by decide) (by decide) ?_
      exact lc_word hrz hrk sm6 B hnc hs hi1 rfl hrel hLD hf (fun X' g' S' h1 h2 => next X' g' S' h1 h2 _ _ (by omega) (by omega))
    · rw [ec]
      refine g_tableIn (pc := 39) (tgt := 752) (off := 713) B dL_law_39 (by decide) (by decide) (by decide) (by decide) ?_
      exact lc_call hrz hrk sm7 B hnc hs hi1 rfl hrel hLD hf (fun X' g' S' h1 h2 => next X' g' S' h1 h2 _ _ (by omega) (by omega))
    · rw [ec]
      refine g_tableIn (pc := 39) (tgt := 808) (off := 769) B dL_law_39 (by decide) (by decide) (by decide) (by decide) ?_
      exact lc_end hrz hrk sm8 B hnc hs  hrel hLD hf (fun X' g' S' h1 h2 => next X' g' S' h1 h2 _ _ (by omega) (by omega))
    · rw [ec]
      refine g_tableIn (pc := 39) (tgt := 852) (off := 813) B dL_law_39 (by decide) (by decide) (by decide) (by decide) ?_
      exact lc_wipe hrz hrk sm9 B hnc hs  hrel hLD hf0 (fun X' g' S' h1 h2 => next X' g' S' h1 h2 _ _ (by omega) (by omega))
    · rw [ec]
      refine g_tableIn (pc := 39) (tgt := 865) (off := 826) B dL_law_39 (by decide) (by decide) (by decide) (by decide) ?_
      exact lc_write hrz hrk sm10 B hnc hs hi1 rfl hrel hLD hf (fun X' g' S' h1 h2 => next X' g' S' h1 h2 _ _ (by omega) (by omega))
    · rw [ec]
      refine g_tableIn (pc := 39) (tgt := 921) (off := 882) B dL_law_39 (by decide) (by decide) (by decide) (by decide) ?_
      exact lc_exercise hrz hrk sm11 B hnc hs hi1 hi2 hi3 rfl rfl rfl hrel hLD hf (fun X' g' S' h1 h2 => next X' g' S' h1 h2 _ _ (by omega) (by omega))
    · rw [ec]
      refine g_tableIn (pc := 39) (tgt := 1001) (off := 962) B dL_law_39 (by decide) (by decide) (by decide) (by decide) ?_
      exact lc_allow hrz hrk sm12 B hnc hs hi1 hi2 hi3 rfl rfl rfl hrel hLD hf (fun X' g' S' h1 h2 => next X' g' S' h1 h2 _ _ (by omega) (by omega))
    · rw [ec]
      refine g_tableIn (pc := 39) (tgt := 1081) (off := 1042) B dL_law_39 (by decide) (by decide) (by decide) (by decide) ?_
      exact lc_handIn hrz hrk sm13 B hnc hs hi1 hi2 rfl rfl hrel hLD hf (fun X' g' S' h1 h2 => next X' g' S' h1 h2 _ _ (by omega) (by omega))
    · rw [ec]
      refine g_tableIn (pc := 39) (tgt := 1149) (off := 1110) B dL_law_39 (by decide) (by decide) (by decide) (by decide) ?_
      exact lc_clear hrz hrk sm14 B hnc hs hi1 hi2 rfl rfl hrel hLD hf (fun X' g' S' h1 h2 => next X' g' S' h1 h2 _ _ (by omega) (by omega))
    · rw [ec]
      refine g_tableIn (pc := 39) (tgt := 1240) (off := 1201) B dL_law_39 (by decide) (by decide) (by decide) (by decide) ?_
      exact lc_setWall hrz hrk sm15 B hnc hs hi1 hi2 rfl rfl hrel hLD hf (fun X' g' S' h1 h2 => next X' g' S' h1 h2 _ _ (by omega) (by omega))
    · rw [ec]
      refine g_tableIn (pc := 39) (tgt := 1308) (off := 1269) B dL_law_39 (by decide) (by decide) (by decide) (by decide) ?_
      exact lc_drafted hrz hrk sm16 B hnc hs  hrel hLD hf0 (fun X' g' S' h1 h2 => next X' g' S' h1 h2 _ _ (by omega) (by omega))
    · rw [ec]
      refine g_tableIn (pc := 39) (tgt := 1321) (off := 1282) B dL_law_39 (by decide) (by decide) (by decide) (by decide) ?_
      exact lc_programs hrz hrk sm17 B hnc hs  hrel hLD hf0 (fun X' g' S' h1 h2 => next X' g' S' h1 h2 _ _ (by omega) (by omega))
    · rw [ec]
      refine g_tableIn (pc := 39) (tgt := 1334) (off := 1295) B dL_law_39 (by decide) (by decide) (by decide) (by decide) ?_
      exact lc_fault hrz hrk sm18 B hnc hs hi1 rfl hrel hLD hf (fun X' g' S' h1 h2 => next X' g' S' h1 h2 _ _ (by omega) (by omega))
    · rw [ec]
      refine g_tableIn (pc := 39) (tgt := 1390) (off := 1351) B dL_law_39 (by decide) (by decide) (by decide) (by decide) ?_
      exact lc_steps hrz hrk sm19 B hnc hs hi1 rfl hrel hLD hf (fun X' g' S' h1 h2 => next X' g' S' h1 h2 _ _ (by omega) (by omega))
    · rw [ec]
      refine g_tableIn (pc := 39) (tgt := 1446) (off := 1407) B dL_law_39 (by decide) (by decide) (by decide) (by decide) ?_
      exact lc_strokes hrz hrk sm20 B hnc hs hi1 rfl hrel hLD hf (fun X' g' S' h1 h2 => next X' g' S' h1 h2 _ _ (by omega) (by omega))
    · rw [ec]
      refine g_tableIn (pc := 39) (tgt := 1502) (off := 1463) B dL_law_39 (by decide) (by decide) (by decide) (by decide) ?_
      exact lc_strokesBySteps hrz hrk sm21 B hnc hs hi1 hi2 rfl rfl hrel hLD hf (fun X' g' S' h1 h2 => next X' g' S' h1 h2 _ _ (by omega) (by omega))
    · rw [ec]
      refine g_tableIn (pc := 39) (tgt := 1570) (off := 1531) B dL_law_39 (by decide) (by decide) (by decide) (by decide) ?_
      exact lc_isDrawn hrz hrk sm22 B hnc hs hi1 hi2 hi3 hi4 rfl rfl rfl rfl hrel hLD hf (fun X' g' S' h1 h2 => next X' g' S' h1 h2 _ _ (by omega) (by omega))
    · rw [ec]
      refine g_tableIn (pc := 39) (tgt := 1685) (off := 1646) B dL_law_39 (by decide) (by decide) (by decide) (by decide) ?_
      exact lc_areAlike hrz hrk sm23 B hnc hs hi1 hi2 rfl rfl hrel hLD hf (fun X' g' S' h1 h2 => next X' g' S' h1 h2 _ _ (by omega) (by omega))
    · rw [ec]
      refine g_tableIn (pc := 39) (tgt := 1760) (off := 1721) B dL_law_39 (by decide) (by decide) (by decide) (by decide) ?_
      exact lc_haveOneForm hrz hrk sm24 B hnc hs hi1 hi2 rfl rfl hrel hLD hf (fun X' g' S' h1 h2 => next X' g' S' h1 h2 _ _ (by omega) (by omega))
    · rw [ec]
      refine g_tableIn (pc := 39) (tgt := 1835) (off := 1796) B dL_law_39 (by decide) (by decide) (by decide) (by decide) ?_
      exact lc_likeness hrz hrk sm25 B hnc hs hi1 hi2 rfl rfl hrel hLD hf (fun X' g' S' h1 h2 => next X' g' S' h1 h2 _ _ (by omega) (by omega))
    · rw [ec]
      refine g_tableIn (pc := 39) (tgt := 1903) (off := 1864) B dL_law_39 (by decide) (by decide) (by decide) (by decide) ?_
      exact lc_works hrz hrk sm26 B hnc hs  hrel hLD hf0 (fun X' g' S' h1 h2 => next X' g' S' h1 h2 _ _ (by omega) (by omega))
    · rw [ec]
      refine g_tableIn (pc := 39) (tgt := 1916) (off := 1877) B dL_law_39 (by decide) (by decide) (by decide) (by decide) ?_
      exact lc_meets hrz hrk sm27 B hnc hs hi1 rfl hrel hLD hf (fun X' g' S' h1 h2 => next X' g' S' h1 h2 _ _ (by omega) (by omega))
    · rw [ec]
      refine g_tableIn (pc := 39) (tgt := 1979) (off := 1940) B dL_law_39 (by decide) (by decide) (by decide) (by decide) ?_
      exact lc_copyOf hrz hrk sm28 B hnc hs hi1 rfl hrel hLD hf (fun X' g' S' h1 h2 => next X' g' S' h1 h2 _ _ (by omega) (by omega))
    · rw [ec]
      refine g_tableIn (pc := 39) (tgt := 2035) (off := 1996) B dL_law_39 (by decide) (by decide) (by decide) (by decide) ?_
      exact lc_hangs hrz hrk sm29 B hnc hs hi1 rfl hrel hLD hf (fun X' g' S' h1 h2 => next X' g' S' h1 h2 _ _ (by omega) (by omega))
    · rw [ec]
      refine g_tableIn (pc := 39) (tgt := 2091) (off := 2052) B dL_law_39 (by decide) (by decide) (by decide) (by decide) ?_
      exact lc_onWall hrz hrk sm30 B hnc hs hi1 hi2 rfl rfl hrel hLD hf (fun X' g' S' h1 h2 => next X' g' S' h1 h2 _ _ (by omega) (by omega))
    · rw [ec]
      refine g_tableIn (pc := 39) (tgt := 2159) (off := 2120) B dL_law_39 (by decide) (by decide) (by decide) (by decide) ?_
      exact lc_hung hrz hrk sm31 B hnc hs hi1 rfl hrel hLD hf (fun X' g' S' h1 h2 => next X' g' S' h1 h2 _ _ (by omega) (by omega))
