def G0 : Nat → Pg := fun _ => (fun _ => 0, fun _ => 0, fun _ => 0, fun _ => 0, 0, 0, 0, 0, 0, 0, 0)
theorem law_0 {z : Nat} : ∃ X1, fX11_init (nO (E0 z) 11) z = some X1 ∧ LwS z (mZ X1) (mZ X1 + 1) (mZ X1 + 2) 0 (fun _ => 0) (fun _ => 0) (fun _ => 0) (fun _ => 0) 0 0 G0 0 (fun _ => 0) (fun _ => 0) (fun _ => 0) 0 (fun _ => 0) (fun _ => 0) (fun _ => 0) (fun _ => none) 20 20 (PsL X1) ∧ FreshM X1 := by
  obtain ⟨X1, e1, e2, e3⟩ := m_init z
  have hO := P0L_ok e2.1
  have hi := P0L_i (X1 := X1)
  obtain ⟨cp1, cp2, cp3⟩ := hO.cp
  have hS : StX z (fun _ => 0) (fun _ => 0) (fun _ => 0) (fun _ => 0) 0 0 G0 0 (fun _ => 0) (fun _ => 0) (fun _ => 0) 0 (fun _ => 0) (fun _ => 0) (fun _ => 0) (fun _ => none) 20 20 (P0L X1).1 := e2.zm.zm.zm
  refine ⟨X1, e1, ?_, e2.1⟩
  unfold PsL
  generalize P0L X1 = P at hO hi hS
  have fc : aI (sI (sI P.2 (mZ X1) 6 20) (mZ X1) 7 20) (mZ X1) = upN (upN (aI P.2 (mZ X1)) 6 20) 7 20 := by rw [yI_s, yI_s]
  have fw : aI (sI (sI P.2 (mZ X1) 6 20) (mZ X1) 7 20) (mZ X1 + 2) = aI P.2 (mZ X1 + 2) := by rw [yI_o cp2.symm, yI_o cp2.symm]
  refine ⟨hS, e3, (hO.st (mZ X1) 6 20).st (mZ X1) 7 20, ?_, ?_, fun q hq => absurd hq (Nat.not_lt_zero _), ?_⟩
  · show LId 0 _ _ 0 (aI (sI (sI P.2 (mZ X1) 6 20) (mZ X1) 7 20) (mZ X1))
    rw [fc]
    refine LId_0 ?_ ?_ ?_
    · rw [un_o _ _ (by decide), un_o _ _ (by decide)]; exact hi _ _
    · rw [un_o _ _ (by decide), un_o _ _ (by decide)]; exact hi _ _
    · rw [un_o _ _ (by decide), un_o _ _ (by decide)]; exact hi _ _
  · show LIn 0 0 0 20 20 (aI (sI (sI P.2 (mZ X1) 6 20) (mZ X1) 7 20) (mZ X1))
    rw [fc]
    refine ⟨?_, ?_, ?_, ?_, ?_, by omega, by omega, by omega⟩
    · rw [un_o _ _ (by decide), un_o _ _ (by decide)]; exact hi _ _
    · rw [un_o _ _ (by decide), un_o _ _ (by decide)]; exact hi _ _
    · rw [un_o _ _ (by decide), un_o _ _ (by decide)]; exact hi _ _
    · rw [un_o _ _ (by decide), upN_s]; rfl
    · rw [upN_s]; rfl
  · show LIw 0 _ _ _ 0 _ _ _ (aI (sI (sI P.2 (mZ X1) 6 20) (mZ X1) 7 20) (mZ X1 + 2))
    rw [fw]
    exact ⟨fun e he => absurd he (Nat.not_lt_zero _), fun e he => absurd he (Nat.not_lt_zero _), fun j _ => hi _ _⟩
set_option maxRecDepth 100000 in
set_option maxHeartbeats 4000000 in
theorem law_entry {D : DD} {ev : EV} {Q : State → Prop} {b Ls z : Nat} {xs : Nat → Int32} (B : Amb D (A0L ev) ev RL "law" cL_law 10 (some .boolean) room_1) (hs : ScrL ev b Ls xs) (hL : Ls ≤ 260) (hend : ∀ X cs sl L, cs ≤ 600104 → sl ≤ 7301314 → Gd D (A0L ev) ev Q X cs sl 282 L [vI 1]) : Gd D (A0L ev) ev Q (E0 z) 0 0 0 [(0, vA (some b))] [] := by
  obtain ⟨X1, e1, hLw, hF⟩ := law_0 (z := z)
  obtain ⟨fu, hfu⟩ : ∃ fu, 100000000 ≤ fu := ⟨_, Nat.le_refl _⟩
  obtain ⟨P', w1⟩ := ok_law (fu := fu) (xs := xs) hfu (show Ls < 2 ^ 20 by omega) (Ls / 3) 0 (PsL X1) (by omega) hLw.law
  have hO0 := P0L_ok hF
  have hS := hLw.1
  have hR := hLw.2.1
  have hap := hLw.law.apm
  obtain ⟨o, u1, u2⟩ := m_onWall (fu := fu) (cx := 19) (cy := 19) (by omega) hS hR (by omega) (by omega)
  have eo : o = none := by
    cases o with
    | none => rfl
    | some v => exact absurd u2.2.1 (Nat.not_lt_zero _)
  rw [eo] at u1
  have u3 := m_hung (fu := fu) (q := 0) (by omega) hS hR (by omega)
  have u4 := m_programs hS
  have u5 := m_works hS
  have u6 := m_drafted hS
  have a0 : apM X1 (E0 0) := fun a h => absurd rfl h
  have ap1 : apM (alP (X1, E0 0) 8).1 (alP (X1, E0 0) 8).2 := alP_a hF a0
  have ap2 : apM (alP (alP (X1, E0 0) 8) 60).1 (alP (alP (X1, E0 0) 8) 60).2 := alP_a (alP_f hF) ap1
  have ap3 : apM (P0L X1).1 (P0L X1).2 := hO0.2.2.2.1
  have hOs : LOK ((P0L X1).1, sI (P0L X1).2 (mZ X1) 6 20) (mZ X1) (mZ X1 + 1) (mZ X1 + 2) := hO0.st (mZ X1) 6 20
  refine g_new (pc := 0) 11 B (by decide) kxL_21 kinL11 ki_X11 (by decide) (by decide) dL_law_0 ?_
  refine g_widen (cs' := 1) (sl' := 11) (by decide) (by decide) ?_
  refine g_dup (pc := 3) B dL_law_3 rfl ?_
  refine h_callI (pc := 4) (As := []) (st := [vA (some z)]) (X' := X1) (cs' := 23) (sl' := 589) B cal_X11_init kmL_154 kn_X11_init rfl (fun l hl => ct_X11_init hl e1) rfl (Nat.le_of_ble_eq_true rfl) (by decide) (by decide) dL_law_4 rfl rfl rfl ?_
  refine g_mem (X1 := lM (X1, E0 0)) (fun H hR9 => hR9.union (Y := E0 H.size) ⟨fun a c n q => (nomatch (show none = some (c, n) from q)), rfl⟩) (fun a ha => (uM_dom.mp ha).elim id (fun q => absurd rfl q)) ?_
  refine g_astore_n (pc := 7) (L' := [(1, vA (some z)), (0, vA (some b))]) B dL_law_7 (by decide) rfl ?_
  refine g_bipush (pc := 8) B dL_law_8 (8 : Int32) (by decide) ?_
  refine gp_newa (pc := 10) (P := (X1, E0 0)) (P1 := alP (X1, E0 0) 8) (q := mZ X1) (t := 0) (N := 8) B rfl rfl ap1 (by decide) rfl ka0 (by decide) (by decide) (by decide) (by decide) (by decide) dL_law_10 ?_
  refine g_astore_n (pc := 12) (L' := [(2, vA (some (mZ X1))), (1, vA (some z)), (0, vA (some b))]) B dL_law_12 (by decide) rfl ?_
  refine g_bipush (pc := 13) B dL_law_13 (60 : Int32) (by decide) ?_
  refine gp_newa (pc := 15) (P := alP (X1, E0 0) 8) (P1 := alP (alP (X1, E0 0) 8) 60) (q := mZ X1 + 1) (t := 0) (N := 60) B rfl rfl ap2 (by decide) rfl ka0 (by decide) (by decide) (by decide) (by decide) (by decide) dL_law_15 ?_
  refine g_astore_n (pc := 17) (L' := [(3, vA (some (mZ X1 + 1))), (2, vA (some (mZ X1))), (1, vA (some z)), (0, vA (some b))]) B dL_law_17 (by decide) rfl ?_
  refine g_bipush (pc := 18) B dL_law_18 (42 : Int32) (by decide) ?_
  refine gp_newa (pc := 20) (P := alP (alP (X1, E0 0) 8) 60) (P1 := P0L X1) (q := mZ X1 + 2) (t := 0) (N := 42) B rfl rfl ap3 (by decide) rfl ka0 (by decide) (by decide) (by decide) (by decide) (by decide) dL_law_20 ?_
  refine g_widen (cs' := 26) (sl' := 699) (by decide) (by decide) ?_
  refine g_astore (pc := 22) (L' := [(4, vA (some (mZ X1 + 2))), (3, vA (some (mZ X1 + 1))), (2, vA (some (mZ X1))), (1, vA (some z)), (0, vA (some b))]) B dL_law_22 (by decide) rfl ?_
  refine g_aload_n (pc := 24) B dL_law_24 2 rfl ?_
  refine g_bipush (pc := 25) B dL_law_25 (6 : Int32) (by decide) ?_
  refine g_bipush (pc := 27) B dL_law_27 (20 : Int32) (by decide) ?_
  refine gp_iast (pc := 29) (P := P0L X1) B ap3 hO0.c6 dL_law_29 ?_
  rw [cl6]
  refine g_aload_n (pc := 30) B dL_law_30 2 rfl ?_
  refine g_bipush (pc := 31) B dL_law_31 (7 : Int32) (by decide) ?_
  refine g_bipush (pc := 33) B dL_law_33 (20 : Int32) (by decide) ?_
  refine gp_iast (pc := 35) (P := ((P0L X1).1, sI (P0L X1).2 (mZ X1) 6 20)) B ap3 hOs.c7 dL_law_35 ?_
  rw [cl7]
  have fin : Gd D (A0L ev) ev Q (lM (PsL X1)) 26 699 36 [(4, vA (some (mZ X1 + 2))), (3, vA (some (mZ X1 + 1))), (2, vA (some (mZ X1))), (1, vA (some z)), (0, vA (some b))] [] := by
    have hk := m_k hS
    generalize PsL X1 = P at hap hk u1 u3 u4 u5 u6 w1
    refine g_aload_n (pc := 36) B dL_law_36 3 rfl ?_
    refine p_callV (pc := 37) (P := P) (As := []) (st := []) (st10 := [vI (nI 0)]) (cs' := 26) (sl' := 699) B cal_X11_programs kmL_20 kn_X11_programs ks_X11_programs hap hk rfl (fun l hl => ct_X11_programs hl u4) rfl (Nat.le_of_ble_eq_true rfl) (by decide) (by decide) dL_law_37 rfl rfl rfl rfl ?_
    refine g_if_ne (pc := 40) (tgt := 81) B dL_law_40 (by decide) (fun c => absurd rfl c) (fun _ => ?_)
    refine g_aload_n (pc := 43) B dL_law_43 3 rfl ?_
    refine p_callV (pc := 44) (P := P) (As := []) (st := []) (st10 := [vI (nI 0)]) (cs' := 26) (sl' := 699) B cal_X11_works kmL_34 kn_X11_works ks_X11_works hap hk rfl (fun l hl => ct_X11_works hl u5) rfl (Nat.le_of_ble_eq_true rfl) (by decide) (by decide) dL_law_44 rfl rfl rfl rfl ?_
    refine g_if_ne (pc := 47) (tgt := 81) B dL_law_47 (by decide) (fun c => absurd rfl c) (fun _ => ?_)
    refine g_aload_n (pc := 50) B dL_law_50 3 rfl ?_
    refine p_callV (pc := 51) (P := P) (As := []) (st := []) (st10 := [vI (nI 0)]) (cs' := 26) (sl' := 699) B cal_X11_drafted kmL_52 kn_X11_drafted ks_X11_drafted hap hk rfl (fun l hl => ct_X11_drafted hl u6) rfl (Nat.le_of_ble_eq_true rfl) (by decide) (by decide) dL_law_51 rfl rfl rfl rfl ?_
    refine g_if_ne (pc := 54) (tgt := 81) B dL_law_54 (by decide) (fun c => absurd rfl c) (fun _ => ?_)
    refine g_aload_n (pc := 57) B dL_law_57 3 rfl ?_
    refine g_bipush (pc := 58) B dL_law_58 (nI 19) (by decide) ?_
    refine g_bipush (pc := 60) B dL_law_60 (nI 19) (by decide) ?_
    refine p_callV (pc := 62) (P := P) (As := [vI (nI 19), vI (nI 19)]) (st := []) (st10 := [vI (oW none)]) (cs' := 26) (sl' := 699) B cal_X11_onWall kmL_148 kn_X11_onWall ks_X11_onWall hap hk rfl (fun l hl => ct_X11_onWall hl u1) rfl (Nat.le_of_ble_eq_true rfl) (by decide) (by decide) dL_law_62 rfl rfl rfl rfl ?_
    refine g_iconst (pc := 65) B dL_law_65 (-1 : Int32) (by decide) ?_
    refine g_icmp_ne (pc := 66) (tgt := 81) B dL_law_66 (by decide) (fun c => absurd rfl c) (fun _ => ?_)
    refine g_aload_n (pc := 69) B dL_law_69 3 rfl ?_
    refine g_iconst (pc := 70) B dL_law_70 (nI 0) (by decide) ?_
    refine p_callV (pc := 71) (P := P) (As := [vI (nI 0)]) (st := []) (st10 := [vI (nI 0)]) (cs' := 26) (sl' := 699) B cal_X11_hung kmL_151 kn_X11_hung ks_X11_hung hap hk rfl (fun l hl => ct_X11_hung hl u3) rfl (Nat.le_of_ble_eq_true rfl) (by decide) (by decide) dL_law_71 rfl rfl rfl rfl ?_
    refine g_if_ne (pc := 74) (tgt := 81) B dL_law_74 (by decide) (fun c => absurd rfl c) (fun _ => ?_)
    refine g_iconst (pc := 77) B dL_law_77 (1 : Int32) (by decide) ?_
    refine g_goto (pc := 78) (tgt := 82) B dL_law_78 (by decide) ?_
    refine g_istore (pc := 82) (L' := [(5, vI 1), (4, vA (some (mZ X1 + 2))), (3, vA (some (mZ X1 + 1))), (2, vA (some (mZ X1))), (1, vA (some z)), (0, vA (some b))]) B dL_law_82 (by decide) rfl ?_
    have e3 : nI Ls / (3 : Int32) = nI (Ls / 3) := pk_div (by omega) (by decide) (by decide)
    refine g_aload_n (pc := 84) B dL_law_84 5 rfl ?_
    refine g_slen (pc := 85) B hs dL_law_85 ?_
    refine g_iconst (pc := 86) B dL_law_86 (3 : Int32) (by decide) ?_
    refine g_idiv (pc := 87) B dL_law_87 (by decide) ?_
    rw [e3]
    refine g_bipush (pc := 88) B dL_law_88 (120 : Int32) (by decide) ?_
    refine g_icmp_le (pc := 90) (tgt := 98) B dL_law_90 (by decide) (fun _ => ?_) (fun c => absurd ((nI_leI (by omega) (by omega : 120 < 2 ^ 31)).mpr (by omega)) c)
    refine g_aload_n (pc := 98) B dL_law_98 5 rfl ?_
    refine g_slen (pc := 99) B hs dL_law_99 ?_
    refine g_iconst (pc := 100) B dL_law_100 (3 : Int32) (by decide) ?_
    refine g_idiv (pc := 101) B dL_law_101 (by decide) ?_
    rw [e3]
    refine g_istore (pc := 102) (L' := [(6, vI (nI (Ls / 3))), (5, vI 1), (4, vA (some (mZ X1 + 2))), (3, vA (some (mZ X1 + 1))), (2, vA (some (mZ X1))), (1, vA (some z)), (0, vA (some b))]) B dL_law_102 (by decide) rfl ?_
    refine g_iconst (pc := 104) B dL_law_104 (nI 0) (by decide) ?_
    refine g_istore (pc := 105) (L' := [(7, vI (nI 0)), (6, vI (nI (Ls / 3))), (5, vI 1), (4, vA (some (mZ X1 + 2))), (3, vA (some (mZ X1 + 1))), (2, vA (some (mZ X1))), (1, vA (some z)), (0, vA (some b))]) B dL_law_105 (by decide) rfl ?_
    refine g_sub (pc := 107) (L' := [(0, vA (some b)), (1, vA (some z)), (2, vA (some (mZ X1))), (3, vA (some (mZ X1 + 1))), (4, vA (some (mZ X1 + 2))), (5, vI 1), (6, vI (nI (Ls / 3))), (7, vI (nI 0))]) [7, 6, 5, 4, 3, 2, 1, 0] rfl ?_
    exact cb_L_law_L107 (fu := fu) (r := (1, P')) B hs (by omega) (fun X' cs sl L h9 => hend _ _ _ _ h9.1 h9.2) (Ls / 3 + 1) ⟨by omega, by omega⟩ hap w1
  exact fin
