set_option maxRecDepth 100000 in
set_option maxHeartbeats 4000000 in
theorem cb_L_others_L90 {D : DD} {ev : EV} {X0 : LwP} {X : LwP} {x0 : Nat} {x1 : Nat} {x2 : Int32} {r : Int32 × LwP} (B : Amb D (foot (lM X0)) ev RL "others" cL_others 4 (some .boolean) rmL_others) (ht : Tb0 ev) (hap : apM X.1 X.2)  (h : fL_others_L90 X x0 x1 x2 = some r) : Gd D (foot (lM X0)) ev (QF D ev (lM X0) (.inr (some (vI r.1))) (lM r.2) rmL_others) (lM X) 0 0 90 [(0, vA (some x0)), (1, vA (some x1)), (2, vI x2)] [] := by
  unfold fL_others_L90 at h
  refine g_aload_n (pc := 90) B dL_others_90 0 rfl ?_
  refine g_iload_n (pc := 91) B dL_others_91 2 rfl ?_
  obtain ⟨k92_1, h⟩ := chk h
  obtain ⟨v92, X92, e92, h⟩ := nTW_s h
  obtain ⟨P92, eP92, h⟩ := ob h
  obtain ⟨hap92, h⟩ := apC_s h
  refine p_callVW (pc := 92) (P := X) (As := [vI x2]) (st := []) (st10 := [vI v92]) (cs' := 1) (sl' := 4) B cal_X11_call kmL_89 kn_X11_call ks_X11_call hap k92_1 rfl (fun l hl => ct_X11_call hl e92) eP92 rfl (Nat.le_of_ble_eq_true rfl) (by decide) (by decide) dL_others_92 rfl rfl rfl rfl ?_
  refine g_aload_n (pc := 95) B dL_others_95 1 rfl ?_
  refine g_iconst (pc := 96) B dL_others_96 (0 : Int32) (by decide) ?_
  obtain ⟨c97, h⟩ := chk h
  refine gp_iald (pc := 97) (P := P92) B hap92 c97 dL_others_97 ?_
  refine g_icmp_ne (pc := 98) (tgt := 105) B dL_others_98 (by decide) (fun c98 => ?_) (fun c98 => ?_)
  · rw [if_neg c98] at h
    refine g_iconst (pc := 105) B dL_others_105 (0 : Int32) (by decide) ?_
    obtain rfl := Option.some.inj h
    exact g_ret_Z (pc := 106) B rfl (Or.inl rfl) (by decide) (by decide) dL_others_106
  · rw [if_pos c98] at h
    refine g_iconst (pc := 101) B dL_others_101 (1 : Int32) (by decide) ?_
    refine g_goto (pc := 102) (tgt := 106) B dL_others_102 (by decide) ?_
    obtain rfl := Option.some.inj h
    exact g_ret_Z (pc := 106) B rfl (Or.inr rfl) (by decide) (by decide) dL_others_106
set_option maxRecDepth 100000 in
set_option maxHeartbeats 4000000 in
theorem cb_L_others_L35 {D : DD} {ev : EV} {X0 : LwP} {X : LwP} {x0 : Nat} {x1 : Nat} {x2 : Int32} {x3 : Int32} {r : Int32 × LwP} (B : Amb D (foot (lM X0)) ev RL "others" cL_others 4 (some .boolean) rmL_others) (ht : Tb0 ev) (hap : apM X.1 X.2)  (h : fL_others_L35 X x0 x1 x2 x3 = some r) : Gd D (foot (lM X0)) ev (QF D ev (lM X0) (.inr (some (vI r.1))) (lM r.2) rmL_others) (lM X) 0 0 35 [(0, vA (some x0)), (1, vA (some x1)), (2, vI x2), (3, vI x3)] [] := by
  unfold fL_others_L35 at h
  refine g_aload_n (pc := 35) B dL_others_35 1 rfl ?_
  refine g_iconst (pc := 36) B dL_others_36 (1 : Int32) (by decide) ?_
  obtain ⟨c37, h⟩ := chk h
  refine gp_iald (pc := 37) (P := X) B hap c37 dL_others_37 ?_
  refine g_if_ne (pc := 38) (tgt := 90) B dL_others_38 (by decide) (fun c38 => ?_) (fun c38 => ?_)
  · rw [if_neg c38] at h
    refine g_sub (pc := 90) [0, 1, 2] rfl ?_
    exact cb_L_others_L90 B ht hap h
  · rw [if_pos c38] at h
    refine g_aload_n (pc := 41) B dL_others_41 1 rfl ?_
    refine g_iconst (pc := 42) B dL_others_42 (2 : Int32) (by decide) ?_
    obtain ⟨c43, h⟩ := chk h
    refine gp_iald (pc := 43) (P := X) B hap c43 dL_others_43 ?_
    refine g_iload_n (pc := 44) B dL_others_44 2 rfl ?_
    refine g_ishr (pc := 45) B dL_others_45 ?_
    refine g_iconst (pc := 46) B dL_others_46 (1 : Int32) (by decide) ?_
    refine g_iand (pc := 47) B dL_others_47 ?_
    refine g_if_ne (pc := 48) (tgt := 90) B dL_others_48 (by decide) (fun c48 => ?_) (fun c48 => ?_)
    · rw [if_neg c48] at h
      refine g_sub (pc := 90) [0, 1, 2] rfl ?_
      exact cb_L_others_L90 B ht hap h
    · rw [if_pos c48] at h
      refine g_iload_n (pc := 51) B dL_others_51 3 rfl ?_
      refine g_iconst (pc := 52) B dL_others_52 (2 : Int32) (by decide) ?_
      refine g_irem (pc := 53) B dL_others_53 (by decide) ?_
      refine g_if_ne (pc := 54) (tgt := 90) B dL_others_54 (by decide) (fun c54 => ?_) (fun c54 => ?_)
      · rw [if_neg c54] at h
        refine g_sub (pc := 90) [0, 1, 2] rfl ?_
        exact cb_L_others_L90 B ht hap h
      · rw [if_pos c54] at h
        refine g_aload_n (pc := 57) B dL_others_57 1 rfl ?_
        refine g_iconst (pc := 58) B dL_others_58 (1 : Int32) (by decide) ?_
        refine g_dup2 (pc := 59) B dL_others_59 rfl rfl ?_
        obtain ⟨c60, h⟩ := chk h
        refine gp_iald (pc := 60) (P := X) B hap c60 dL_others_60 ?_
        refine g_iconst (pc := 61) B dL_others_61 (1 : Int32) (by decide) ?_
        refine g_iadd (pc := 62) B dL_others_62 ?_
        obtain ⟨c63, h⟩ := chk h
        refine gp_iast (pc := 63) (P := X) B hap c63 dL_others_63 ?_
        refine g_aload_n (pc := 64) B dL_others_64 1 rfl ?_
        refine g_iconst (pc := 65) B dL_others_65 (2 : Int32) (by decide) ?_
        refine g_dup2 (pc := 66) B dL_others_66 rfl rfl ?_
        obtain ⟨c67, h⟩ := chk h
        refine gp_iald (pc := 67) (P := (X.1, (sI X.2 x1 (1 : Int32).toNatClampNeg ((aI X.2 x1 (1 : Int32).toNatClampNeg) + (1 : Int32))))) B hap c67 dL_others_67 ?_
        refine g_iconst (pc := 68) B dL_others_68 (1 : Int32) (by decide) ?_
        refine g_iload_n (pc := 69) B dL_others_69 2 rfl ?_
        refine g_ishl (pc := 70) B dL_others_70 ?_
        refine g_ior (pc := 71) B dL_others_71 ?_
        obtain ⟨c72, h⟩ := chk h
        refine gp_iast (pc := 72) (P := (X.1, (sI X.2 x1 (1 : Int32).toNatClampNeg ((aI X.2 x1 (1 : Int32).toNatClampNeg) + (1 : Int32))))) B hap c72 dL_others_72 ?_
        refine g_aload_n (pc := 73) B dL_others_73 0 rfl ?_
        refine g_iload_n (pc := 74) B dL_others_74 2 rfl ?_
        obtain ⟨k75_1, h⟩ := chk h
        obtain ⟨v75, X75, e75, h⟩ := nTW_s h
        obtain ⟨P75, eP75, h⟩ := ob h
        obtain ⟨hap75, h⟩ := apC_s h
        refine p_callVW (pc := 75) (P := (X.1, (sI (sI X.2 x1 (1 : Int32).toNatClampNeg ((aI X.2 x1 (1 : Int32).toNatClampNeg) + (1 : Int32))) x1 (2 : Int32).toNatClampNeg ((aI (sI X.2 x1 (1 : Int32).toNatClampNeg ((aI X.2 x1 (1 : Int32).toNatClampNeg) + (1 : Int32))) x1 (2 : Int32).toNatClampNeg) ||| ((1 : Int32) <<< (x2 &&& 31)))))) (As := [vI x2]) (st := []) (st10 := [vI v75]) (cs' := 1) (sl' := 4) B cal_X11_word kmL_86 kn_X11_word ks_X11_word hap k75_1 rfl (fun l hl => ct_X11_word hl e75) eP75 rfl (Nat.le_of_ble_eq_true rfl) (by decide) (by decide) dL_others_75 rfl rfl rfl rfl ?_
        refine g_aload_n (pc := 78) B dL_others_78 1 rfl ?_
        refine g_iconst (pc := 79) B dL_others_79 (0 : Int32) (by decide) ?_
        obtain ⟨c80, h⟩ := chk h
        refine gp_iald (pc := 80) (P := P75) B hap75 c80 dL_others_80 ?_
        refine g_icmp_ne (pc := 81) (tgt := 88) B dL_others_81 (by decide) (fun c81 => ?_) (fun c81 => ?_)
        · rw [if_neg c81] at h
          refine g_iconst (pc := 88) B dL_others_88 (0 : Int32) (by decide) ?_
          obtain rfl := Option.some.inj h
          exact g_ret_Z (pc := 89) B rfl (Or.inl rfl) (by decide) (by decide) dL_others_89
        · rw [if_pos c81] at h
          refine g_iconst (pc := 84) B dL_others_84 (1 : Int32) (by decide) ?_
          refine g_goto (pc := 85) (tgt := 89) B dL_others_85 (by decide) ?_
          obtain rfl := Option.some.inj h
          exact g_ret_Z (pc := 89) B rfl (Or.inr rfl) (by decide) (by decide) dL_others_89
set_option maxRecDepth 100000 in
set_option maxHeartbeats 4000000 in
theorem cb_L_others_L0 {D : DD} {ev : EV} {X0 : LwP} {X : LwP} {x0 : Nat} {x1 : Nat} {x2 : Int32} {x3 : Int32} {r : Int32 × LwP} (B : Amb D (foot (lM X0)) ev RL "others" cL_others 4 (some .boolean) rmL_others) (ht : Tb0 ev) (hap : apM X.1 X.2)  (h : fL_others X x0 x1 x2 x3 = some r) : Gd D (foot (lM X0)) ev (QF D ev (lM X0) (.inr (some (vI r.1))) (lM r.2) rmL_others) (lM X) 0 0 0 [(0, vA (some x0)), (1, vA (some x1)), (2, vI x2), (3, vI x3)] [] := by
  unfold fL_others at h
  refine g_aload_n (pc := 0) B dL_others_0 1 rfl ?_
  refine g_iconst (pc := 1) B dL_others_1 (1 : Int32) (by decide) ?_
  obtain ⟨c2, h⟩ := chk h
  refine gp_iald (pc := 2) (P := X) B hap c2 dL_others_2 ?_
  refine g_if_le (pc := 3) (tgt := 35) B dL_others_3 (by decide) (fun c3 => ?_) (fun c3 => ?_)
  · rw [if_pos c3] at h
    refine g_sub (pc := 35) [0, 1, 2, 3] rfl ?_
    exact cb_L_others_L35 B ht hap h
  · rw [if_neg c3] at h
    refine g_iload_n (pc := 6) B dL_others_6 3 rfl ?_
    refine g_iconst (pc := 7) B dL_others_7 (3 : Int32) (by decide) ?_
    refine g_irem (pc := 8) B dL_others_8 (by decide) ?_
    refine g_if_le (pc := 9) (tgt := 35) B dL_others_9 (by decide) (fun c9 => ?_) (fun c9 => ?_)
    · rw [if_pos c9] at h
      refine g_sub (pc := 35) [0, 1, 2, 3] rfl ?_
      exact cb_L_others_L35 B ht hap h
    · rw [if_neg c9] at h
      refine g_aload_n (pc := 12) B dL_others_12 1 rfl ?_
      refine g_iconst (pc := 13) B dL_others_13 (1 : Int32) (by decide) ?_
      refine g_dup2 (pc := 14) B dL_others_14 rfl rfl ?_
      obtain ⟨c15, h⟩ := chk h
      refine gp_iald (pc := 15) (P := X) B hap c15 dL_others_15 ?_
      refine g_iconst (pc := 16) B dL_others_16 (1 : Int32) (by decide) ?_
      refine g_isub (pc := 17) B dL_others_17 ?_
      obtain ⟨c18, h⟩ := chk h
      refine gp_iast (pc := 18) (P := X) B hap c18 dL_others_18 ?_
      refine g_aload_n (pc := 19) B dL_others_19 0 rfl ?_
      obtain ⟨k20_1, h⟩ := chk h
      obtain ⟨v20, X20, e20, h⟩ := nTW_s h
      obtain ⟨P20, eP20, h⟩ := ob h
      obtain ⟨hap20, h⟩ := apC_s h
      refine p_callVW (pc := 20) (P := (X.1, (sI X.2 x1 (1 : Int32).toNatClampNeg ((aI X.2 x1 (1 : Int32).toNatClampNeg) - (1 : Int32))))) (As := []) (st := []) (st10 := [vI v20]) (cs' := 1) (sl' := 4) B cal_X11_end kmL_83 kn_X11_end ks_X11_end hap k20_1 rfl (fun l hl => ct_X11_end hl e20) eP20 rfl (Nat.le_of_ble_eq_true rfl) (by decide) (by decide) dL_others_20 rfl rfl rfl rfl ?_
      refine g_aload_n (pc := 23) B dL_others_23 1 rfl ?_
      refine g_iconst (pc := 24) B dL_others_24 (1 : Int32) (by decide) ?_
      obtain ⟨c25, h⟩ := chk h
      refine gp_iald (pc := 25) (P := P20) B hap20 c25 dL_others_25 ?_
      refine g_icmp_ne (pc := 26) (tgt := 33) B dL_others_26 (by decide) (fun c26 => ?_) (fun c26 => ?_)
      · rw [if_neg c26] at h
        refine g_iconst (pc := 33) B dL_others_33 (0 : Int32) (by decide) ?_
        obtain rfl := Option.some.inj h
        exact g_ret_Z (pc := 34) B rfl (Or.inl rfl) (by decide) (by decide) dL_others_34
      · rw [if_pos c26] at h
        refine g_iconst (pc := 29) B dL_others_29 (1 : Int32) (by decide) ?_
        refine g_goto (pc := 30) (tgt := 34) B dL_others_30 (by decide) ?_
        obtain rfl := Option.some.inj h
        exact g_ret_Z (pc := 34) B rfl (Or.inr rfl) (by decide) (by decide) dL_others_34
theorem ct_L_others {D : DD} {l : Launch} {X0 : LwP} {x0 : Nat} {x1 : Nat} {x2 : Int32} {x3 : Int32} {r : Int32 × LwP} (hl : l.stackTraces = false) (hap : apM X0.1 X0.2) (h : fL_others X0 x0 x1 x2 x3 = some r) : Ctr D l yL_others cL_others 4 (some .boolean) rmL_others [vA (some x0), vA (some x1), vI x2, vI x3] (lM X0) (.inr (some (vI r.1))) (lM r.2) :=
  ctr_of hl (by decide +kernel) (Nat.le_of_ble_eq_true rfl) fun ev _ ht B => cb_L_others_L0 B ht hap h
set_option maxRecDepth 100000 in
set_option maxHeartbeats 4000000 in
theorem cb_L_drafts_L92 {D : DD} {ev : EV} {X0 : LwP} {X : LwP} {x0 : Nat} {x1 : Nat} {x5 : Int32} {x6 : Int32} {r : Int32 × LwP} (B : Amb D (foot (lM X0)) ev RL "drafts" cL_drafts 7 (some .boolean) rmL_drafts) (ht : Tb0 ev) (hap : apM X.1 X.2)  (h : fL_drafts_L92 X x0 x1 x5 x6 = some r) : Gd D (foot (lM X0)) ev (QF D ev (lM X0) (.inr (some (vI r.1))) (lM r.2) rmL_drafts) (lM X) 0 0 92 [(0, vA (some x0)), (1, vA (some x1)), (5, vI x5), (6, vI x6)] [] := by
  unfold fL_drafts_L92 at h
  refine g_aload_n (pc := 92) B dL_drafts_92 0 rfl ?_
  refine g_iload (pc := 93) B dL_drafts_93 3 rfl ?_
  refine g_iload (pc := 95) B dL_drafts_95 2 rfl ?_
  obtain ⟨k97_1, h⟩ := chk h
  obtain ⟨v97, X97, e97, h⟩ := nTW_s h
  obtain ⟨P97, eP97, h⟩ := ob h
  obtain ⟨hap97, h⟩ := apC_s h
  refine p_callVW (pc := 97) (P := X) (As := [vI x6, vI x5]) (st := []) (st10 := [vI v97]) (cs' := 1) (sl' := 4) B cal_X11_forward kmL_58 kn_X11_forward ks_X11_forward hap k97_1 rfl (fun l hl => ct_X11_forward hl e97) eP97 rfl (Nat.le_of_ble_eq_true rfl) (by decide) (by decide) dL_drafts_97 rfl rfl rfl rfl ?_
  refine g_aload_n (pc := 100) B dL_drafts_100 1 rfl ?_
  refine g_iconst (pc := 101) B dL_drafts_101 (0 : Int32) (by decide) ?_
  obtain ⟨c102, h⟩ := chk h
  refine gp_iald (pc := 102) (P := P97) B hap97 c102 dL_drafts_102 ?_
  refine g_icmp_ne (pc := 103) (tgt := 110) B dL_drafts_103 (by decide) (fun c103 => ?_) (fun c103 => ?_)
  · rw [if_neg c103] at h
    refine g_iconst (pc := 110) B dL_drafts_110 (0 : Int32) (by decide) ?_
    obtain rfl := Option.some.inj h
    exact g_ret_Z (pc := 111) B rfl (Or.inl rfl) (by decide) (by decide) dL_drafts_111
  · rw [if_pos c103] at h
    refine g_iconst (pc := 106) B dL_drafts_106 (1 : Int32) (by decide) ?_
    refine g_goto (pc := 107) (tgt := 111) B dL_drafts_107 (by decide) ?_
    obtain rfl := Option.some.inj h
    exact g_ret_Z (pc := 111) B rfl (Or.inr rfl) (by decide) (by decide) dL_drafts_111
set_option maxRecDepth 100000 in
set_option maxHeartbeats 4000000 in
theorem cb_L_drafts_L180 {D : DD} {ev : EV} {X0 : LwP} {X : LwP} {x1 : Nat} {s0 : Int32} {r : Int32 × LwP} (B : Amb D (foot (lM X0)) ev RL "drafts" cL_drafts 7 (some .boolean) rmL_drafts) (ht : Tb0 ev) (hap : apM X.1 X.2)  (h : fL_drafts_L180 X x1 s0 = some r) : Gd D (foot (lM X0)) ev (QF D ev (lM X0) (.inr (some (vI r.1))) (lM r.2) rmL_drafts) (lM X) 1 4 180 [(1, vA (some x1))] [vI s0] := by
  unfold fL_drafts_L180 at h
  refine g_aload_n (pc := 180) B dL_drafts_180 0 rfl ?_
  refine g_iconst (pc := 181) B dL_drafts_181 (0 : Int32) (by decide) ?_
  obtain ⟨c182, h⟩ := chk h
  refine gp_iald (pc := 182) (P := X) B hap c182 dL_drafts_182 ?_
  refine g_icmp_ne (pc := 183) (tgt := 190) B dL_drafts_183 (by decide) (fun c183 => ?_) (fun c183 => ?_)
  · rw [if_neg c183] at h
    refine g_iconst (pc := 190) B dL_drafts_190 (0 : Int32) (by decide) ?_
    obtain rfl := Option.some.inj h
    exact g_ret_Z (pc := 191) B rfl (Or.inl rfl) (by decide) (by decide) dL_drafts_191
  · rw [if_pos c183] at h
    refine g_iconst (pc := 186) B dL_drafts_186 (1 : Int32) (by decide) ?_
    refine g_goto (pc := 187) (tgt := 191) B dL_drafts_187 (by decide) ?_
    obtain rfl := Option.some.inj h
    exact g_ret_Z (pc := 191) B rfl (Or.inr rfl) (by decide) (by decide) dL_drafts_191
set_option maxRecDepth 100000 in
set_option maxHeartbeats 4000000 in
theorem cb_L_drafts_L175 {D : DD} {ev : EV} {X0 : LwP} {X : LwP} {x1 : Nat} {x5 : Int32} {s0 : Nat} {s1 : Int32} {s2 : Int32} {r : Int32 × LwP} (B : Amb D (foot (lM X0)) ev RL "drafts" cL_drafts 7 (some .boolean) rmL_drafts) (ht : Tb0 ev) (hap : apM X.1 X.2)  (h : fL_drafts_L175 X x1 x5 s0 s1 s2 = some r) : Gd D (foot (lM X0)) ev (QF D ev (lM X0) (.inr (some (vI r.1))) (lM r.2) rmL_drafts) (lM X) 0 0 175 [(1, vA (some x1)), (5, vI x5)] [vI s2, vI s1, vA (some s0)] := by
  unfold fL_drafts_L175 at h
  refine g_iload (pc := 175) B dL_drafts_175 1 rfl ?_
  obtain ⟨k177_1, h⟩ := chk h
  obtain ⟨v177, X177, e177, h⟩ := nTW_s h
  obtain ⟨P177, eP177, h⟩ := ob h
  obtain ⟨hap177, h⟩ := apC_s h
  refine p_callVW (pc := 177) (P := X) (As := [vI s1, vI s2, vI x5]) (st := []) (st10 := [vI v177]) (cs' := 1) (sl' := 4) B cal_X11_add kmL_69 kn_X11_add ks_X11_add hap k177_1 rfl (fun l hl => ct_X11_add hl e177) eP177 rfl (Nat.le_of_ble_eq_true rfl) (by decide) (by decide) dL_drafts_177 rfl rfl rfl rfl ?_
  refine g_sub (pc := 180) [0] rfl ?_
  exact cb_L_drafts_L180 B ht hap177 h
set_option maxRecDepth 100000 in
set_option maxHeartbeats 4000000 in
theorem cb_L_drafts_L151 {D : DD} {ev : EV} {X0 : LwP} {X : LwP} {x1 : Nat} {s0 : Nat} {s1 : Int32} {r : Int32 × LwP} (B : Amb D (foot (lM X0)) ev RL "drafts" cL_drafts 7 (some .boolean) rmL_drafts) (ht : Tb0 ev) (hap : apM X.1 X.2)  (h : fL_drafts_L151 X x1 s0 s1 = some r) : Gd D (foot (lM X0)) ev (QF D ev (lM X0) (.inr (some (vI r.1))) (lM r.2) rmL_drafts) (lM X) 0 0 151 [(1, vA (some x1))] [vI s1, vA (some s0)] := by
  unfold fL_drafts_L151 at h
  obtain ⟨k151_1, h⟩ := chk h
  obtain ⟨v151, X151, e151, h⟩ := nTW_s h
  obtain ⟨P151, eP151, h⟩ := ob h
  obtain ⟨hap151, h⟩ := apC_s h
  refine p_callVW (pc := 151) (P := X) (As := [vI s1]) (st := []) (st10 := [vI v151]) (cs' := 1) (sl' := 4) B cal_X11_pen kmL_65 kn_X11_pen ks_X11_pen hap k151_1 rfl (fun l hl => ct_X11_pen hl e151) eP151 rfl (Nat.le_of_ble_eq_true rfl) (by decide) (by decide) dL_drafts_151 rfl rfl rfl rfl ?_
  refine g_goto (pc := 154) (tgt := 180) B dL_drafts_154 (by decide) ?_
  refine g_sub (pc := 180) [0] rfl ?_
  exact cb_L_drafts_L180 B ht hap151 h
set_option maxRecDepth 100000 in
set_option maxHeartbeats 4000000 in
theorem cb_L_drafts_L210 {D : DD} {ev : EV} {X0 : LwP} {X : LwP} {x1 : Nat} {x5 : Int32} {s0 : Nat} {s1 : Int32} {s2 : Int32} {r : Int32 × LwP} (B : Amb D (foot (lM X0)) ev RL "drafts" cL_drafts 7 (some .boolean) rmL_drafts) (ht : Tb0 ev) (hap : apM X.1 X.2)  (h : fL_drafts_L210 X x1 x5 s0 s1 s2 = some r) : Gd D (foot (lM X0)) ev (QF D ev (lM X0) (.inr (some (vI r.1))) (lM r.2) rmL_drafts) (lM X) 0 0 210 [(1, vA (some x1)), (5, vI x5)] [vI s2, vI s1, vA (some s0)] := by
  unfold fL_drafts_L210 at h
  refine g_iload (pc := 210) B dL_drafts_210 1 rfl ?_
  obtain ⟨k212_1, h⟩ := chk h
  obtain ⟨v212, X212, e212, h⟩ := nTW_s h
  obtain ⟨P212, eP212, h⟩ := ob h
  obtain ⟨hap212, h⟩ := apC_s h
  refine p_callVW (pc := 212) (P := X) (As := [vI s1, vI s2, vI x5]) (st := []) (st10 := [vI v212]) (cs' := 1) (sl' := 4) B cal_X11_set kmL_73 kn_X11_set ks_X11_set hap k212_1 rfl (fun l hl => ct_X11_set hl e212) eP212 rfl (Nat.le_of_ble_eq_true rfl) (by decide) (by decide) dL_drafts_212 rfl rfl rfl rfl ?_
  refine g_aload_n (pc := 215) B dL_drafts_215 0 rfl ?_
  refine g_iconst (pc := 216) B dL_drafts_216 (0 : Int32) (by decide) ?_
  obtain ⟨c217, h⟩ := chk h
  refine gp_iald (pc := 217) (P := P212) B hap212 c217 dL_drafts_217 ?_
  refine g_icmp_ne (pc := 218) (tgt := 225) B dL_drafts_218 (by decide) (fun c218 => ?_) (fun c218 => ?_)
  · rw [if_neg c218] at h
    refine g_iconst (pc := 225) B dL_drafts_225 (0 : Int32) (by decide) ?_
    obtain rfl := Option.some.inj h
    exact g_ret_Z (pc := 226) B rfl (Or.inl rfl) (by decide) (by decide) dL_drafts_226
  · rw [if_pos c218] at h
    refine g_iconst (pc := 221) B dL_drafts_221 (1 : Int32) (by decide) ?_
    refine g_goto (pc := 222) (tgt := 226) B dL_drafts_222 (by decide) ?_
    obtain rfl := Option.some.inj h
    exact g_ret_Z (pc := 226) B rfl (Or.inr rfl) (by decide) (by decide) dL_drafts_226
set_option maxRecDepth 100000 in
set_option maxHeartbeats 4000000 in
theorem cb_L_drafts_L43 {D : DD} {ev : EV} {X0 : LwP} {X : LwP} {x0 : Nat} {x1 : Nat} {x2 : Int32} {x3 : Int32} {x4 : Int32} {x5 : Int32} {s0 : Int32} {r : Int32 × LwP} (B : Amb D (foot (lM X0)) ev RL "drafts" cL_drafts 7 (some .boolean) rmL_drafts) (ht : Tb0 ev) (hap : apM X.1 X.2)  (h : fL_drafts_L43 X x0 x1 x2 x3 x4 x5 s0 = some r) : Gd D (foot (lM X0)) ev (QF D ev (lM X0) (.inr (some (vI r.1))) (lM r.2) rmL_drafts) (lM X) 0 0 43 [(0, vA (some x0)), (1, vA (some x1)), (2, vI x2), (3, vI x3), (4, vI x4), (5, vI x5)] [vI s0] := by
  unfold fL_drafts_L43 at h
  refine g_istore (pc := 43) (L' := [(6, vI s0), (0, vA (some x0)), (1, vA (some x1)), (2, vI x2), (3, vI x3), (4, vI x4), (5, vI x5)]) B dL_drafts_43 (by decide) rfl ?_
  refine g_aload_n (pc := 45) B dL_drafts_45 2 rfl ?_
  refine g_iconst (pc := 46) B dL_drafts_46 (0 : Int32) (by decide) ?_
  refine g_dup2 (pc := 47) B dL_drafts_47 rfl rfl ?_
  obtain ⟨c48, h⟩ := chk h
  refine gp_iald (pc := 48) (P := X) B hap c48 dL_drafts_48 ?_
  refine g_iconst (pc := 49) B dL_drafts_49 (1 : Int32) (by decide) ?_
  refine g_iadd (pc := 50) B dL_drafts_50 ?_
  obtain ⟨c51, h⟩ := chk h
  refine gp_iast (pc := 51) (P := X) B hap c51 dL_drafts_51 ?_
  refine g_iload_n (pc := 52) B dL_drafts_52 3 rfl ?_
  by_cases c53v0 : x2 = (0 : Int32)
  · rw [if_pos c53v0] at h
    refine g_tableIn (pc := 53) (tgt := 92) (off := 39) B dL_drafts_53 (by rw [c53v0]; decide) (by rw [c53v0]; decide) (by rw [c53v0]; decide +kernel) (by decide) ?_
    refine g_sub (pc := 92) [1, 2, 6, 0] rfl ?_
    exact cb_L_drafts_L92 B ht hap h
  · rw [if_neg c53v0] at h
    by_cases c53v1 : x2 = (1 : Int32)
    · rw [if_pos c53v1] at h
      refine g_tableIn (pc := 53) (tgt := 92) (off := 39) B dL_drafts_53 (by rw [c53v1]; decide) (by rw [c53v1]; decide) (by rw [c53v1]; decide +kernel) (by decide) ?_
      refine g_sub (pc := 92) [1, 2, 6, 0] rfl ?_
      exact cb_L_drafts_L92 B ht hap h
    · rw [if_neg c53v1] at h
      by_cases c53v2 : x2 = (2 : Int32)
      · rw [if_pos c53v2] at h
        refine g_tableIn (pc := 53) (tgt := 112) (off := 59) B dL_drafts_53 (by rw [c53v2]; decide) (by rw [c53v2]; decide) (by rw [c53v2]; decide +kernel) (by decide) ?_
        refine g_aload_n (pc := 112) B dL_drafts_112 1 rfl ?_
        refine g_iload (pc := 113) B dL_drafts_113 0 rfl ?_
        refine g_iload (pc := 115) B dL_drafts_115 6 rfl ?_
        obtain ⟨k117_1, h⟩ := chk h
        obtain ⟨v117, X117, e117, h⟩ := nTW_s h
        obtain ⟨P117, eP117, h⟩ := ob h
        obtain ⟨hap117, h⟩ := apC_s h
        refine p_callVW (pc := 117) (P := (X.1, (sI X.2 x1 (0 : Int32).toNatClampNeg ((aI X.2 x1 (0 : Int32).toNatClampNeg) + (1 : Int32))))) (As := [vI s0, vI x5]) (st := []) (st10 := [vI v117]) (cs' := 1) (sl' := 4) B cal_X11_turn kmL_62 kn_X11_turn ks_X11_turn hap k117_1 rfl (fun l hl => ct_X11_turn hl e117) eP117 rfl (Nat.le_of_ble_eq_true rfl) (by decide) (by decide) dL_drafts_117 rfl rfl rfl rfl ?_
        refine g_aload_n (pc := 120) B dL_drafts_120 2 rfl ?_
        refine g_iconst (pc := 121) B dL_drafts_121 (0 : Int32) (by decide) ?_
        obtain ⟨c122, h⟩ := chk h
        refine gp_iald (pc := 122) (P := P117) B hap117 c122 dL_drafts_122 ?_
        refine g_icmp_ne (pc := 123) (tgt := 130) B dL_drafts_123 (by decide) (fun c123 => ?_) (fun c123 => ?_)
        · rw [if_neg c123] at h
          refine g_iconst (pc := 130) B dL_drafts_130 (0 : Int32) (by decide) ?_
          obtain rfl := Option.some.inj h
          exact g_ret_Z (pc := 131) B rfl (Or.inl rfl) (by decide) (by decide) dL_drafts_131
        · rw [if_pos c123] at h
          refine g_iconst (pc := 126) B dL_drafts_126 (1 : Int32) (by decide) ?_
          refine g_goto (pc := 127) (tgt := 131) B dL_drafts_127 (by decide) ?_
          obtain rfl := Option.some.inj h
          exact g_ret_Z (pc := 131) B rfl (Or.inr rfl) (by decide) (by decide) dL_drafts_131
      · rw [if_neg c53v2] at h
        by_cases c53v3 : x2 = (3 : Int32)
        · rw [if_pos c53v3] at h
          refine g_tableIn (pc := 53) (tgt := 132) (off := 79) B dL_drafts_53 (by rw [c53v3]; decide) (by rw [c53v3]; decide) (by rw [c53v3]; decide +kernel) (by decide) ?_
          refine g_iload (pc := 132) B dL_drafts_132 5 rfl ?_
          refine g_iconst (pc := 134) B dL_drafts_134 (3 : Int32) (by decide) ?_
          refine g_irem (pc := 135) B dL_drafts_135 (by decide) ?_
          refine g_if_ne (pc := 136) (tgt := 157) B dL_drafts_136 (by decide) (fun c136 => ?_) (fun c136 => ?_)
          · rw [if_neg c136] at h
            refine g_aload_n (pc := 157) B dL_drafts_157 1 rfl ?_
            refine g_iload_n (pc := 158) B dL_drafts_158 4 rfl ?_
            refine g_iconst (pc := 159) B dL_drafts_159 (4 : Int32) (by decide) ?_
            refine g_irem (pc := 160) B dL_drafts_160 (by decide) ?_
            refine g_iload (pc := 161) B dL_drafts_161 6 rfl ?_
            refine g_if_eq (pc := 163) (tgt := 171) B dL_drafts_163 (by decide) (fun c163 => ?_) (fun c163 => ?_)
            · rw [if_pos c163] at h
              refine g_iload (pc := 171) B dL_drafts_171 0 rfl ?_
              refine g_iconst (pc := 173) B dL_drafts_173 (2 : Int32) (by decide) ?_
              refine g_isub (pc := 174) B dL_drafts_174 ?_
              refine g_sub (pc := 175) [2, 6] rfl ?_
              exact cb_L_drafts_L175 B ht hap h
            · rw [if_neg c163] at h
              refine g_iload (pc := 166) B dL_drafts_166 0 rfl ?_
              refine g_goto (pc := 168) (tgt := 175) B dL_drafts_168 (by decide) ?_
              refine g_sub (pc := 175) [2, 6] rfl ?_
              exact cb_L_drafts_L175 B ht hap h
          · rw [if_pos c136] at h
            refine g_aload_n (pc := 139) B dL_drafts_139 1 rfl ?_
            refine g_iload_n (pc := 140) B dL_drafts_140 4 rfl ?_
            refine g_iconst (pc := 141) B dL_drafts_141 (2 : Int32) (by decide) ?_
            refine g_irem (pc := 142) B dL_drafts_142 (by decide) ?_
            refine g_if_ne (pc := 143) (tgt := 150) B dL_drafts_143 (by decide) (fun c143 => ?_) (fun c143 => ?_)
            · rw [if_neg c143] at h
              refine g_iconst (pc := 150) B dL_drafts_150 (0 : Int32) (by decide) ?_
              refine g_sub (pc := 151) [2] rfl ?_
              exact cb_L_drafts_L151 B ht hap h
            · rw [if_pos c143] at h
              refine g_iconst (pc := 146) B dL_drafts_146 (1 : Int32) (by decide) ?_
              refine g_goto (pc := 147) (tgt := 151) B dL_drafts_147 (by decide) ?_
              refine g_sub (pc := 151) [2] rfl ?_
              exact cb_L_drafts_L151 B ht hap h
        · rw [if_neg c53v3] at h
          by_cases c53v4 : x2 = (4 : Int32)
          · rw [if_pos c53v4] at h
            refine g_tableIn (pc := 53) (tgt := 192) (off := 139) B dL_drafts_53 (by rw [c53v4]; decide) (by rw [c53v4]; decide) (by rw [c53v4]; decide +kernel) (by decide) ?_
            refine g_aload_n (pc := 192) B dL_drafts_192 1 rfl ?_
            refine g_iload_n (pc := 193) B dL_drafts_193 4 rfl ?_
            refine g_iconst (pc := 194) B dL_drafts_194 (4 : Int32) (by decide) ?_
            refine g_irem (pc := 195) B dL_drafts_195 (by decide) ?_
            refine g_iload (pc := 196) B dL_drafts_196 6 rfl ?_
            refine g_if_eq (pc := 198) (tgt := 206) B dL_drafts_198 (by decide) (fun c198 => ?_) (fun c198 => ?_)
            · rw [if_pos c198] at h
              refine g_iload (pc := 206) B dL_drafts_206 0 rfl ?_
              refine g_iconst (pc := 208) B dL_drafts_208 (1 : Int32) (by decide) ?_
              refine g_isub (pc := 209) B dL_drafts_209 ?_
              refine g_sub (pc := 210) [2, 6] rfl ?_
              exact cb_L_drafts_L210 B ht hap h
            · rw [if_neg c198] at h
              refine g_iload (pc := 201) B dL_drafts_201 0 rfl ?_
              refine g_goto (pc := 203) (tgt := 210) B dL_drafts_203 (by decide) ?_
              refine g_sub (pc := 210) [2, 6] rfl ?_
              exact cb_L_drafts_L210 B ht hap h
          · rw [if_neg c53v4] at h
            by_cases c53v5 : x2 = (5 : Int32)
            · rw [if_pos c53v5] at h
              refine g_tableIn (pc := 53) (tgt := 227) (off := 174) B dL_drafts_53 (by rw [c53v5]; decide) (by rw [c53v5]; decide) (by rw [c53v5]; decide +kernel) (by decide) ?_
              refine g_aload_n (pc := 227) B dL_drafts_227 2 rfl ?_
              refine g_iconst (pc := 228) B dL_drafts_228 (1 : Int32) (by decide) ?_
              refine g_dup2 (pc := 229) B dL_drafts_229 rfl rfl ?_
              obtain ⟨c230, h⟩ := chk h
              refine gp_iald (pc := 230) (P := (X.1, (sI X.2 x1 (0 : Int32).toNatClampNeg ((aI X.2 x1 (0 : Int32).toNatClampNeg) + (1 : Int32))))) B hap c230 dL_drafts_230 ?_
              refine g_iconst (pc := 231) B dL_drafts_231 (1 : Int32) (by decide) ?_
              refine g_iadd (pc := 232) B dL_drafts_232 ?_
              obtain ⟨c233, h⟩ := chk h
              refine gp_iast (pc := 233) (P := (X.1, (sI X.2 x1 (0 : Int32).toNatClampNeg ((aI X.2 x1 (0 : Int32).toNatClampNeg) + (1 : Int32))))) B hap c233 dL_drafts_233 ?_
              refine g_aload_n (pc := 234) B dL_drafts_234 1 rfl ?_
              refine g_iload (pc := 235) B dL_drafts_235 0 rfl ?_
              refine g_iload (pc := 237) B dL_drafts_237 6 rfl ?_
              obtain ⟨k239_2, h⟩ := chk h
              obtain ⟨v239, X239, e239, h⟩ := nTW_s h
              obtain ⟨P239, eP239, h⟩ := ob h
              obtain ⟨hap239, h⟩ := apC_s h
              refine p_callVW (pc := 239) (P := (X.1, (sI (sI X.2 x1 (0 : Int32).toNatClampNeg ((aI X.2 x1 (0 : Int32).toNatClampNeg) + (1 : Int32))) x1 (1 : Int32).toNatClampNeg ((aI (sI X.2 x1 (0 : Int32).toNatClampNeg ((aI X.2 x1 (0 : Int32).toNatClampNeg) + (1 : Int32))) x1 (1 : Int32).toNatClampNeg) + (1 : Int32))))) (As := [vI s0, vI x5]) (st := []) (st10 := [vI v239]) (cs' := 1) (sl' := 4) B cal_X11_repeat kmL_76 kn_X11_repeat ks_X11_repeat hap k239_2 rfl (fun l hl => ct_X11_repeat hl e239) eP239 rfl (Nat.le_of_ble_eq_true rfl) (by decide) (by decide) dL_drafts_239 rfl rfl rfl rfl ?_
              refine g_aload_n (pc := 242) B dL_drafts_242 2 rfl ?_
              refine g_iconst (pc := 243) B dL_drafts_243 (0 : Int32) (by decide) ?_
              obtain ⟨c244, h⟩ := chk h
              refine gp_iald (pc := 244) (P := P239) B hap239 c244 dL_drafts_244 ?_
              refine g_icmp_ne (pc := 245) (tgt := 252) B dL_drafts_245 (by decide) (fun c245 => ?_) (fun c245 => ?_)
              · rw [if_neg c245] at h
                refine g_iconst (pc := 252) B dL_drafts_252 (0 : Int32) (by decide) ?_
                obtain rfl := Option.some.inj h
                exact g_ret_Z (pc := 253) B rfl (Or.inl rfl) (by decide) (by decide) dL_drafts_253
              · rw [if_pos c245] at h
                refine g_iconst (pc := 248) B dL_drafts_248 (1 : Int32) (by decide) ?_
                refine g_goto (pc := 249) (tgt := 253) B dL_drafts_249 (by decide) ?_
                obtain rfl := Option.some.inj h
                exact g_ret_Z (pc := 253) B rfl (Or.inr rfl) (by decide) (by decide) dL_drafts_253
            · rw [if_neg c53v5] at h
              by_cases c53d : x2.toInt < 0 ∨ 5 < x2.toInt
              · rw [if_pos c53d] at h
                refine g_tableOut (pc := 53) (tgt := 254) B dL_drafts_53 c53d (by decide) ?_
                refine g_aload_n (pc := 254) B dL_drafts_254 1 rfl ?_
                refine g_aload_n (pc := 255) B dL_drafts_255 2 rfl ?_
                refine g_iload_n (pc := 256) B dL_drafts_256 4 rfl ?_
                refine g_iconst (pc := 257) B dL_drafts_257 (4 : Int32) (by decide) ?_
                refine g_irem (pc := 258) B dL_drafts_258 (by decide) ?_
                refine g_iload (pc := 259) B dL_drafts_259 5 rfl ?_
                obtain ⟨v261, X261, e261, h⟩ := obW h
                obtain ⟨hap261, h⟩ := apC_s h
                refine h_callS (pc := 261) (As := [vA (some x0), vA (some x1), vI (x3 - x3 / (4 : Int32) * (4 : Int32)), vI x4]) (st := []) (X' := (lM X261)) (cs' := 3) (sl' := 12) (st10 := [vI v261]) B cal_L_others kmL_79 kz_L_others (fun l hl => ct_L_others (X0 := (X.1, (sI X.2 x1 (0 : Int32).toNatClampNeg ((aI X.2 x1 (0 : Int32).toNatClampNeg) + (1 : Int32))))) hl hap e261) rfl (Nat.le_of_ble_eq_true rfl) (by decide) (by decide) dL_drafts_261 rfl rfl rfl rfl ?_
                obtain ⟨z264, h⟩ := chk h
                obtain rfl := Option.some.inj h
                exact g_ret_Z (pc := 264) B rfl z264 (by decide) (by decide) dL_drafts_264
              · rw [if_neg c53d] at h
                exact nomatch h
set_option maxRecDepth 100000 in
set_option maxHeartbeats 4000000 in
theorem cb_L_drafts_L42 {D : DD} {ev : EV} {X0 : LwP} {X : LwP} {x0 : Nat} {x1 : Nat} {x2 : Int32} {x3 : Int32} {x4 : Int32} {x5 : Int32} {s0 : Int32} {s1 : Int32} {r : Int32 × LwP} (B : Amb D (foot (lM X0)) ev RL "drafts" cL_drafts 7 (some .boolean) rmL_drafts) (ht : Tb0 ev) (hap : apM X.1 X.2)  (h : fL_drafts_L42 X x0 x1 x2 x3 x4 x5 s0 s1 = some r) : Gd D (foot (lM X0)) ev (QF D ev (lM X0) (.inr (some (vI r.1))) (lM r.2) rmL_drafts) (lM X) 0 0 42 [(0, vA (some x0)), (1, vA (some x1)), (2, vI x2), (3, vI x3), (4, vI x4), (5, vI x5)] [vI s1, vI s0] := by
  unfold fL_drafts_L42 at h
  obtain ⟨c42, h⟩ := chkN h
  refine g_irem (pc := 42) B dL_drafts_42 c42 ?_
  refine g_sub (pc := 43) [0, 1, 2, 3, 4, 5] rfl ?_
  exact cb_L_drafts_L43 B ht hap h
set_option maxRecDepth 100000 in
set_option maxHeartbeats 4000000 in
theorem cb_L_drafts_L12 {D : DD} {ev : EV} {X0 : LwP} {X : LwP} {x0 : Nat} {x1 : Nat} {x2 : Int32} {x3 : Int32} {x4 : Int32} {s0 : Int32} {r : Int32 × LwP} (B : Amb D (foot (lM X0)) ev RL "drafts" cL_drafts 7 (some .boolean) rmL_drafts) (ht : Tb0 ev) (hap : apM X.1 X.2)  (h : fL_drafts_L12 X x0 x1 x2 x3 x4 s0 = some r) : Gd D (foot (lM X0)) ev (QF D ev (lM X0) (.inr (some (vI r.1))) (lM r.2) rmL_drafts) (lM X) 0 0 12 [(0, vA (some x0)), (1, vA (some x1)), (2, vI x2), (3, vI x3), (4, vI x4)] [vI s0] := by
  unfold fL_drafts_L12 at h
  refine g_istore (pc := 12) (L' := [(5, vI s0), (0, vA (some x0)), (1, vA (some x1)), (2, vI x2), (3, vI x3), (4, vI x4)]) B dL_drafts_12 (by decide) rfl ?_
  refine g_iload (pc := 14) B dL_drafts_14 0 rfl ?_
  refine g_if_eq (pc := 16) (tgt := 28) B dL_drafts_16 (by decide) (fun c16 => ?_) (fun c16 => ?_)
  · rw [if_pos c16] at h
    refine g_iload (pc := 28) B dL_drafts_28 5 rfl ?_
    refine g_iconst (pc := 30) B dL_drafts_30 (4 : Int32) (by decide) ?_
    refine g_idiv (pc := 31) B dL_drafts_31 (by decide) ?_
    refine g_iload_n (pc := 32) B dL_drafts_32 3 rfl ?_
    refine g_if_ne (pc := 33) (tgt := 41) B dL_drafts_33 (by decide) (fun c33 => ?_) (fun c33 => ?_)
    · rw [if_neg c33] at h
      refine g_iconst (pc := 41) B dL_drafts_41 (5 : Int32) (by decide) ?_
      refine g_sub (pc := 42) [1, 2, 3, 4, 5, 0] rfl ?_
      exact cb_L_drafts_L42 B ht hap h
    · rw [if_pos c33] at h
      refine g_bipush (pc := 36) B dL_drafts_36 (9 : Int32) (by decide) ?_
      refine g_goto (pc := 38) (tgt := 42) B dL_drafts_38 (by decide) ?_
      refine g_sub (pc := 42) [1, 2, 3, 4, 5, 0] rfl ?_
      exact cb_L_drafts_L42 B ht hap h
  · rw [if_neg c16] at h
    refine g_iload (pc := 19) B dL_drafts_19 5 rfl ?_
    refine g_iconst (pc := 21) B dL_drafts_21 (4 : Int32) (by decide) ?_
    refine g_idiv (pc := 22) B dL_drafts_22 (by decide) ?_
    refine g_iconst (pc := 23) B dL_drafts_23 (4 : Int32) (by decide) ?_
    refine g_irem (pc := 24) B dL_drafts_24 (by decide) ?_
    refine g_goto (pc := 25) (tgt := 43) B dL_drafts_25 (by decide) ?_
    refine g_sub (pc := 43) [1, 2, 3, 4, 5, 0] rfl ?_
    exact cb_L_drafts_L43 B ht hap h
set_option maxRecDepth 100000 in
set_option maxHeartbeats 4000000 in
theorem cb_L_drafts_L0 {D : DD} {ev : EV} {X0 : LwP} {X : LwP} {x0 : Nat} {x1 : Nat} {x2 : Int32} {x3 : Int32} {x4 : Int32} {r : Int32 × LwP} (B : Amb D (foot (lM X0)) ev RL "drafts" cL_drafts 7 (some .boolean) rmL_drafts) (ht : Tb0 ev) (hap : apM X.1 X.2)  (h : fL_drafts X x0 x1 x2 x3 x4 = some r) : Gd D (foot (lM X0)) ev (QF D ev (lM X0) (.inr (some (vI r.1))) (lM r.2) rmL_drafts) (lM X) 0 0 0 [(0, vA (some x0)), (1, vA (some x1)), (2, vI x2), (3, vI x3), (4, vI x4)] [] := by
  unfold fL_drafts at h
  refine g_iload (pc := 0) B dL_drafts_0 4 rfl ?_
  refine g_iconst (pc := 2) B dL_drafts_2 (4 : Int32) (by decide) ?_
  refine g_irem (pc := 3) B dL_drafts_3 (by decide) ?_
  refine g_if_ne (pc := 4) (tgt := 11) B dL_drafts_4 (by decide) (fun c4 => ?_) (fun c4 => ?_)
  · rw [if_neg c4] at h
    refine g_iconst (pc := 11) B dL_drafts_11 (0 : Int32) (by decide) ?_
    refine g_sub (pc := 12) [0, 1, 2, 3, 4] rfl ?_
    exact cb_L_drafts_L12 B ht hap h
  · rw [if_pos c4] at h
    refine g_iconst (pc := 7) B dL_drafts_7 (1 : Int32) (by decide) ?_
    refine g_goto (pc := 8) (tgt := 12) B dL_drafts_8 (by decide) ?_
    refine g_sub (pc := 12) [0, 1, 2, 3, 4] rfl ?_
    exact cb_L_drafts_L12 B ht hap h
theorem ct_L_drafts {D : DD} {l : Launch} {X0 : LwP} {x0 : Nat} {x1 : Nat} {x2 : Int32} {x3 : Int32} {x4 : Int32} {r : Int32 × LwP} (hl : l.stackTraces = false) (hap : apM X0.1 X0.2) (h : fL_drafts X0 x0 x1 x2 x3 x4 = some r) : Ctr D l yL_drafts cL_drafts 7 (some .boolean) rmL_drafts [vA (some x0), vA (some x1), vI x2, vI x3, vI x4] (lM X0) (.inr (some (vI r.1))) (lM r.2) :=
  ctr_of hl (by decide +kernel) (Nat.le_of_ble_eq_true rfl) fun ev _ ht B => cb_L_drafts_L0 B ht hap h
set_option maxRecDepth 100000 in
set_option maxHeartbeats 4000000 in
theorem cb_L_isDrawing_L429 {D : DD} {ev : EV} {X0 : LwP} {fu : Nat} {rec387 : LwP → Nat → Int32 → Int32 → Int32 → Int32 → Option (Int32 × LwP)} {X : LwP} {x0 : Nat} {x2 : Int32} {x11 : Int32} {x12 : Int32} {s0 : Int32} {r : Int32 × LwP} (B : Amb D (foot (lM X0)) ev RL "isDrawing" cL_isDrawing 13 (some .boolean) rmL_isDrawing) (ht : Tb0 ev) (hap : apM X.1 X.2) (hrec387 : ∀ {X : LwP} {x0 : Nat} {x2 : Int32} {x9 : Int32} {x10 : Int32} {x11 : Int32} {r : Int32 × LwP}, apM X.1 X.2 → rec387 X x0 x2 x9 x10 x11 = some r → Gd D (foot (lM X0)) ev (QF D ev (lM X0) (.inr (some (vI r.1))) (lM r.2) rmL_isDrawing) (lM X) 0 0 387 [(0, vA (some x0)), (2, vI x2), (9, vI x9), (10, vI x10), (11, vI x11)] []) (h : fL_isDrawing_L429 fu rec387 X x0 x2 x11 x12 s0 = some r) : Gd D (foot (lM X0)) ev (QF D ev (lM X0) (.inr (some (vI r.1))) (lM r.2) rmL_isDrawing) (lM X) 0 0 429 [(0, vA (some x0)), (2, vI x2), (11, vI x11), (12, vI x12)] [vI s0] := by
  unfold fL_isDrawing_L429 at h
  refine g_istore (pc := 429) (L' := [(10, vI s0), (0, vA (some x0)), (2, vI x2), (11, vI x11), (12, vI x12)]) B dL_isDrawing_429 (by decide) rfl ?_
  refine g_iload (pc := 431) B dL_isDrawing_431 4 rfl ?_
  refine g_istore (pc := 433) (L' := [(9, vI x12), (10, vI s0), (0, vA (some x0)), (2, vI x2), (11, vI x11), (12, vI x12)]) B dL_isDrawing_433 (by decide) rfl ?_
  refine g_iinc (pc := 435) (v := (x11 + (1 : Int32))) (L' := [(11, vI (x11 + (1 : Int32))), (9, vI x12), (10, vI s0), (0, vA (some x0)), (2, vI x2), (12, vI x12)]) B dL_isDrawing_435 (by decide) 4 rfl rfl rfl ?_
  refine g_goto (pc := 438) (tgt := 387) B dL_isDrawing_438 (by decide) ?_
  refine g_sub (pc := 387) [3, 4, 1, 2, 0] rfl ?_
  exact hrec387 hap h
set_option maxRecDepth 100000 in
set_option maxHeartbeats 4000000 in
theorem cb_L_isDrawing_L428 {D : DD} {ev : EV} {X0 : LwP} {fu : Nat} {rec387 : LwP → Nat → Int32 → Int32 → Int32 → Int32 → Option (Int32 × LwP)} {X : LwP} {x0 : Nat} {x2 : Int32} {x11 : Int32} {x12 : Int32} {r : Int32 × LwP} (B : Amb D (foot (lM X0)) ev RL "isDrawing" cL_isDrawing 13 (some .boolean) rmL_isDrawing) (ht : Tb0 ev) (hap : apM X.1 X.2) (hrec387 : ∀ {X : LwP} {x0 : Nat} {x2 : Int32} {x9 : Int32} {x10 : Int32} {x11 : Int32} {r : Int32 × LwP}, apM X.1 X.2 → rec387 X x0 x2 x9 x10 x11 = some r → Gd D (foot (lM X0)) ev (QF D ev (lM X0) (.inr (some (vI r.1))) (lM r.2) rmL_isDrawing) (lM X) 0 0 387 [(0, vA (some x0)), (2, vI x2), (9, vI x9), (10, vI x10), (11, vI x11)] []) (h : fL_isDrawing_L428 fu rec387 X x0 x2 x11 x12 = some r) : Gd D (foot (lM X0)) ev (QF D ev (lM X0) (.inr (some (vI r.1))) (lM r.2) rmL_isDrawing) (lM X) 0 0 428 [(0, vA (some x0)), (2, vI x2), (11, vI x11), (12, vI x12)] [] := by
  unfold fL_isDrawing_L428 at h
  refine g_iconst (pc := 428) B dL_isDrawing_428 (0 : Int32) (by decide) ?_
  refine g_sub (pc := 429) [0, 1, 2, 3] rfl ?_
  exact cb_L_isDrawing_L429 B ht hap hrec387 h
set_option maxRecDepth 100000 in
set_option maxHeartbeats 4000000 in
theorem cb_L_isDrawing_L387b {D : DD} {ev : EV} {X0 : LwP} {fu : Nat} {rec387 : LwP → Nat → Int32 → Int32 → Int32 → Int32 → Option (Int32 × LwP)} {X : LwP} {x0 : Nat} {x2 : Int32} {x9 : Int32} {x10 : Int32} {x11 : Int32} {r : Int32 × LwP} (B : Amb D (foot (lM X0)) ev RL "isDrawing" cL_isDrawing 13 (some .boolean) rmL_isDrawing) (ht : Tb0 ev) (hap : apM X.1 X.2) (hrec387 : ∀ {X : LwP} {x0 : Nat} {x2 : Int32} {x9 : Int32} {x10 : Int32} {x11 : Int32} {r : Int32 × LwP}, apM X.1 X.2 → rec387 X x0 x2 x9 x10 x11 = some r → Gd D (foot (lM X0)) ev (QF D ev (lM X0) (.inr (some (vI r.1))) (lM r.2) rmL_isDrawing) (lM X) 0 0 387 [(0, vA (some x0)), (2, vI x2), (9, vI x9), (10, vI x10), (11, vI x11)] []) (h : fL_isDrawing_L387b fu rec387 X x0 x2 x9 x10 x11 = some r) : Gd D (foot (lM X0)) ev (QF D ev (lM X0) (.inr (some (vI r.1))) (lM r.2) rmL_isDrawing) (lM X) 0 0 387 [(0, vA (some x0)), (2, vI x2), (9, vI x9), (10, vI x10), (11, vI x11)] [] := by
  unfold fL_isDrawing_L387b at h
  refine g_iload (pc := 387) B dL_isDrawing_387 4 rfl ?_
  refine g_bipush (pc := 389) B dL_isDrawing_389 (9 : Int32) (by decide) ?_
  refine g_icmp_ge (pc := 391) (tgt := 441) B dL_isDrawing_391 (by decide) (fun c391 => ?_) (fun c391 => ?_)
  · rw [if_pos c391] at h
    refine g_iload (pc := 441) B dL_isDrawing_441 3 rfl ?_
    obtain ⟨z443, h⟩ := chk h
    obtain rfl := Option.some.inj h
    exact g_ret_Z (pc := 443) B rfl z443 (by decide) (by decide) dL_isDrawing_443
  · rw [if_neg c391] at h
    refine g_iload (pc := 394) B dL_isDrawing_394 3 rfl ?_
    refine g_if_eq (pc := 396) (tgt := 441) B dL_isDrawing_396 (by decide) (fun c396 => ?_) (fun c396 => ?_)
    · rw [if_pos c396] at h
      refine g_iload (pc := 441) B dL_isDrawing_441 3 rfl ?_
      obtain ⟨z443, h⟩ := chk h
      obtain rfl := Option.some.inj h
      exact g_ret_Z (pc := 443) B rfl z443 (by decide) (by decide) dL_isDrawing_443
    · rw [if_neg c396] at h
      refine g_aload_n (pc := 399) B dL_isDrawing_399 0 rfl ?_
      refine g_iload_n (pc := 400) B dL_isDrawing_400 1 rfl ?_
      refine g_iload (pc := 401) B dL_isDrawing_401 4 rfl ?_
      obtain ⟨k403_1, h⟩ := chk h
      obtain ⟨v403, X403, e403, h⟩ := nTW_s h
      obtain ⟨P403, eP403, h⟩ := ob h
      obtain ⟨hap403, h⟩ := apC_s h
      refine p_callVW (pc := 403) (P := X) (As := [vI x2, vI x11]) (st := []) (st10 := [vI v403]) (cs' := 0) (sl' := 0) B cal_X11_strokesBySteps kmL_112 kn_X11_strokesBySteps ks_X11_strokesBySteps hap k403_1 rfl (fun l hl => ct_X11_strokesBySteps hl e403) eP403 rfl (Nat.le_of_ble_eq_true rfl) (by decide) (by decide) dL_isDrawing_403 rfl rfl rfl rfl ?_
      refine g_istore (pc := 406) (L' := [(12, vI v403), (0, vA (some x0)), (2, vI x2), (9, vI x9), (10, vI x10), (11, vI x11)]) B dL_isDrawing_406 (by decide) rfl ?_
      refine g_iload (pc := 408) B dL_isDrawing_408 0 rfl ?_
      refine g_iload (pc := 410) B dL_isDrawing_410 3 rfl ?_
      refine g_icmp_lt (pc := 412) (tgt := 428) B dL_isDrawing_412 (by decide) (fun c412 => ?_) (fun c412 => ?_)
      · rw [if_pos c412] at h
        refine g_sub (pc := 428) [1, 2, 5, 0] rfl ?_
        exact cb_L_isDrawing_L428 B ht hap403 hrec387 h
      · rw [if_neg c412] at h
        refine g_iload (pc := 415) B dL_isDrawing_415 0 rfl ?_
        refine g_iload (pc := 417) B dL_isDrawing_417 3 rfl ?_
        refine g_iconst (pc := 419) B dL_isDrawing_419 (1 : Int32) (by decide) ?_
        refine g_iadd (pc := 420) B dL_isDrawing_420 ?_
        refine g_icmp_gt (pc := 421) (tgt := 428) B dL_isDrawing_421 (by decide) (fun c421 => ?_) (fun c421 => ?_)
        · rw [if_pos c421] at h
          refine g_sub (pc := 428) [1, 2, 5, 0] rfl ?_
          exact cb_L_isDrawing_L428 B ht hap403 hrec387 h
        · rw [if_neg c421] at h
          refine g_iconst (pc := 424) B dL_isDrawing_424 (1 : Int32) (by decide) ?_
          refine g_goto (pc := 425) (tgt := 429) B dL_isDrawing_425 (by decide) ?_
          refine g_sub (pc := 429) [1, 2, 5, 0] rfl ?_
          exact cb_L_isDrawing_L429 B ht hap403 hrec387 h
theorem cb_L_isDrawing_L387n {D : DD} {ev : EV} {X0 : LwP} {fu : Nat} (B : Amb D (foot (lM X0)) ev RL "isDrawing" cL_isDrawing 13 (some .boolean) rmL_isDrawing) (ht : Tb0 ev)  : ∀ (n : Nat) {X : LwP} {x0 : Nat} {x2 : Int32} {x9 : Int32} {x10 : Int32} {x11 : Int32} {r : Int32 × LwP}, apM X.1 X.2 → fL_isDrawing_L387 fu n X x0 x2 x9 x10 x11 = some r → Gd D (foot (lM X0)) ev (QF D ev (lM X0) (.inr (some (vI r.1))) (lM r.2) rmL_isDrawing) (lM X) 0 0 387 [(0, vA (some x0)), (2, vI x2), (9, vI x9), (10, vI x10), (11, vI x11)] [] := by
  intro n
  induction n with
  | zero => intro X x0 x2 x9 x10 x11 r hap h; exact nomatch h
  | succ n ih => intro X x0 x2 x9 x10 x11 r hap h; exact cb_L_isDrawing_L387b (fu := fu) B ht hap (fun hap9 h9 => ih hap9 h9) h
theorem cb_L_isDrawing_L387 {D : DD} {ev : EV} {X0 : LwP} {fu : Nat} {X : LwP} {x0 : Nat} {x2 : Int32} {x9 : Int32} {x10 : Int32} {x11 : Int32} {n : Nat} {r : Int32 × LwP} (B : Amb D (foot (lM X0)) ev RL "isDrawing" cL_isDrawing 13 (some .boolean) rmL_isDrawing) (ht : Tb0 ev) (hap : apM X.1 X.2)  (h : fL_isDrawing_L387 fu n X x0 x2 x9 x10 x11 = some r) : Gd D (foot (lM X0)) ev (QF D ev (lM X0) (.inr (some (vI r.1))) (lM r.2) rmL_isDrawing) (lM X) 0 0 387 [(0, vA (some x0)), (2, vI x2), (9, vI x9), (10, vI x10), (11, vI x11)] [] := cb_L_isDrawing_L387n B ht n hap h
set_option maxRecDepth 100000 in
set_option maxHeartbeats 4000000 in
theorem cb_L_isDrawing_L382 {D : DD} {ev : EV} {X0 : LwP} {fu : Nat} {X : LwP} {x0 : Nat} {x2 : Int32} {x9 : Int32} {s0 : Int32} {r : Int32 × LwP} (B : Amb D (foot (lM X0)) ev RL "isDrawing" cL_isDrawing 13 (some .boolean) rmL_isDrawing) (ht : Tb0 ev) (hap : apM X.1 X.2)  (h : fL_isDrawing_L382 fu X x0 x2 x9 s0 = some r) : Gd D (foot (lM X0)) ev (QF D ev (lM X0) (.inr (some (vI r.1))) (lM r.2) rmL_isDrawing) (lM X) 0 0 382 [(0, vA (some x0)), (2, vI x2), (9, vI x9)] [vI s0] := by
  unfold fL_isDrawing_L382 at h
  refine g_istore (pc := 382) (L' := [(10, vI s0), (0, vA (some x0)), (2, vI x2), (9, vI x9)]) B dL_isDrawing_382 (by decide) rfl ?_
  refine g_iconst (pc := 384) B dL_isDrawing_384 (1 : Int32) (by decide) ?_
  refine g_istore (pc := 385) (L' := [(11, vI (1 : Int32)), (10, vI s0), (0, vA (some x0)), (2, vI x2), (9, vI x9)]) B dL_isDrawing_385 (by decide) rfl ?_
  refine g_sub (pc := 387) [2, 3, 4, 1, 0] rfl ?_
  exact cb_L_isDrawing_L387 B ht hap h
set_option maxRecDepth 100000 in
set_option maxHeartbeats 4000000 in
theorem cb_L_isDrawing_L381 {D : DD} {ev : EV} {X0 : LwP} {fu : Nat} {X : LwP} {x0 : Nat} {x2 : Int32} {x9 : Int32} {r : Int32 × LwP} (B : Amb D (foot (lM X0)) ev RL "isDrawing" cL_isDrawing 13 (some .boolean) rmL_isDrawing) (ht : Tb0 ev) (hap : apM X.1 X.2)  (h : fL_isDrawing_L381 fu X x0 x2 x9 = some r) : Gd D (foot (lM X0)) ev (QF D ev (lM X0) (.inr (some (vI r.1))) (lM r.2) rmL_isDrawing) (lM X) 0 0 381 [(0, vA (some x0)), (2, vI x2), (9, vI x9)] [] := by
  unfold fL_isDrawing_L381 at h
  refine g_iconst (pc := 381) B dL_isDrawing_381 (0 : Int32) (by decide) ?_
  refine g_sub (pc := 382) [0, 1, 2] rfl ?_
  exact cb_L_isDrawing_L382 B ht hap h
set_option maxRecDepth 100000 in
set_option maxHeartbeats 4000000 in
theorem cb_L_isDrawing_L345 {D : DD} {ev : EV} {X0 : LwP} {fu : Nat} {X : LwP} {x0 : Nat} {x2 : Int32} {x3 : Int32} {x8 : Int32} {x9 : Int32} {r : Int32 × LwP} (B : Amb D (foot (lM X0)) ev RL "isDrawing" cL_isDrawing 13 (some .boolean) rmL_isDrawing) (ht : Tb0 ev) (hap : apM X.1 X.2)  (h : fL_isDrawing_L345 fu X x0 x2 x3 x8 x9 = some r) : Gd D (foot (lM X0)) ev (QF D ev (lM X0) (.inr (some (vI r.1))) (lM r.2) rmL_isDrawing) (lM X) 0 0 345 [(0, vA (some x0)), (2, vI x2), (3, vI x3), (8, vI x8), (9, vI x9)] [] := by
  unfold fL_isDrawing_L345 at h
  refine g_aload_n (pc := 345) B dL_isDrawing_345 0 rfl ?_
  refine g_iload_n (pc := 346) B dL_isDrawing_346 1 rfl ?_
  refine g_iconst (pc := 347) B dL_isDrawing_347 (0 : Int32) (by decide) ?_
  obtain ⟨k348_1, h⟩ := chk h
  obtain ⟨v348, X348, e348, h⟩ := nTW_s h
  obtain ⟨P348, eP348, h⟩ := ob h
  obtain ⟨hap348, h⟩ := apC_s h
  refine p_callVW (pc := 348) (P := X) (As := [vI x2, vI (0 : Int32)]) (st := []) (st10 := [vI v348]) (cs' := 0) (sl' := 0) B cal_X11_strokesBySteps kmL_112 kn_X11_strokesBySteps ks_X11_strokesBySteps hap k348_1 rfl (fun l hl => ct_X11_strokesBySteps hl e348) eP348 rfl (Nat.le_of_ble_eq_true rfl) (by decide) (by decide) dL_isDrawing_348 rfl rfl rfl rfl ?_
  refine g_if_ne (pc := 351) (tgt := 381) B dL_isDrawing_351 (by decide) (fun c351 => ?_) (fun c351 => ?_)
  · rw [if_neg c351] at h
    refine g_sub (pc := 381) [0, 1, 4] rfl ?_
    exact cb_L_isDrawing_L381 B ht hap348 h
  · rw [if_pos c351] at h
    refine g_aload_n (pc := 354) B dL_isDrawing_354 0 rfl ?_
    refine g_iload_n (pc := 355) B dL_isDrawing_355 1 rfl ?_
    refine g_sipush (pc := 356) B dL_isDrawing_356 (600 : Int32) (by decide) ?_
    obtain ⟨k359_2, h⟩ := chk h
    obtain ⟨v359, X359, e359, h⟩ := nTW_s h
    obtain ⟨P359, eP359, h⟩ := ob h
    obtain ⟨hap359, h⟩ := apC_s h
    refine p_callVW (pc := 359) (P := P348) (As := [vI x2, vI (600 : Int32)]) (st := []) (st10 := [vI v359]) (cs' := 0) (sl' := 0) B cal_X11_strokesBySteps kmL_112 kn_X11_strokesBySteps ks_X11_strokesBySteps hap348 k359_2 rfl (fun l hl => ct_X11_strokesBySteps hl e359) eP359 rfl (Nat.le_of_ble_eq_true rfl) (by decide) (by decide) dL_isDrawing_359 rfl rfl rfl rfl ?_
    refine g_iload_n (pc := 362) B dL_isDrawing_362 2 rfl ?_
    refine g_icmp_ne (pc := 363) (tgt := 381) B dL_isDrawing_363 (by decide) (fun c363 => ?_) (fun c363 => ?_)
    · rw [if_neg c363] at h
      refine g_sub (pc := 381) [0, 1, 4] rfl ?_
      exact cb_L_isDrawing_L381 B ht hap359 h
    · rw [if_pos c363] at h
      refine g_aload_n (pc := 366) B dL_isDrawing_366 0 rfl ?_
      refine g_iload_n (pc := 367) B dL_isDrawing_367 1 rfl ?_
      refine g_iload (pc := 368) B dL_isDrawing_368 3 rfl ?_
      obtain ⟨k370_3, h⟩ := chk h
      obtain ⟨v370, X370, e370, h⟩ := nTW_s h
      obtain ⟨P370, eP370, h⟩ := ob h
      obtain ⟨hap370, h⟩ := apC_s h
      refine p_callVW (pc := 370) (P := P359) (As := [vI x2, vI x8]) (st := []) (st10 := [vI v370]) (cs' := 0) (sl' := 0) B cal_X11_strokesBySteps kmL_112 kn_X11_strokesBySteps ks_X11_strokesBySteps hap359 k370_3 rfl (fun l hl => ct_X11_strokesBySteps hl e370) eP370 rfl (Nat.le_of_ble_eq_true rfl) (by decide) (by decide) dL_isDrawing_370 rfl rfl rfl rfl ?_
      refine g_iload_n (pc := 373) B dL_isDrawing_373 2 rfl ?_
      refine g_icmp_ne (pc := 374) (tgt := 381) B dL_isDrawing_374 (by decide) (fun c374 => ?_) (fun c374 => ?_)
      · rw [if_neg c374] at h
        refine g_sub (pc := 381) [0, 1, 4] rfl ?_
        exact cb_L_isDrawing_L381 B ht hap370 h
      · rw [if_pos c374] at h
        refine g_iconst (pc := 377) B dL_isDrawing_377 (1 : Int32) (by decide) ?_
        refine g_goto (pc := 378) (tgt := 382) B dL_isDrawing_378 (by decide) ?_
        refine g_sub (pc := 382) [0, 1, 4] rfl ?_
        exact cb_L_isDrawing_L382 B ht hap370 h
set_option maxRecDepth 100000 in
set_option maxHeartbeats 4000000 in
theorem cb_L_isDrawing_L280 {D : DD} {ev : EV} {X0 : LwP} {fu : Nat} {X : LwP} {x0 : Nat} {x2 : Int32} {x3 : Int32} {x6 : Int32} {x7 : Int32} {s0 : Nat} {s1 : Int32} {s2 : Int32} {r : Int32 × LwP} (B : Amb D (foot (lM X0)) ev RL "isDrawing" cL_isDrawing 13 (some .boolean) rmL_isDrawing) (ht : Tb0 ev) (hap : apM X.1 X.2)  (h : fL_isDrawing_L280 fu X x0 x2 x3 x6 x7 s0 s1 s2 = some r) : Gd D (foot (lM X0)) ev (QF D ev (lM X0) (.inr (some (vI r.1))) (lM r.2) rmL_isDrawing) (lM X) 0 0 280 [(0, vA (some x0)), (2, vI x2), (3, vI x3), (6, vI x6), (7, vI x7)] [vI s2, vI s1, vA (some s0)] := by
  unfold fL_isDrawing_L280 at h
  obtain ⟨c280, h⟩ := chk h
  refine gp_iast (pc := 280) (P := X) B hap c280 dL_isDrawing_280 ?_
  refine g_aload_n (pc := 281) B dL_isDrawing_281 0 rfl ?_
  refine g_iload_n (pc := 282) B dL_isDrawing_282 1 rfl ?_
  obtain ⟨k283_1, h⟩ := chk h
  obtain ⟨v283, e283, h⟩ := nT_s h
  refine p_callV (pc := 283) (P := (X.1, (sI X.2 s0 s1.toNatClampNeg s2))) (As := [vI x2]) (st := []) (st10 := [vI v283]) (cs' := 0) (sl' := 0) B cal_X11_steps kmL_103 kn_X11_steps ks_X11_steps hap k283_1 rfl (fun l hl => ct_X11_steps hl e283) rfl (Nat.le_of_ble_eq_true rfl) (by decide) (by decide) dL_isDrawing_283 rfl rfl rfl rfl ?_
  refine g_istore (pc := 286) (L' := [(8, vI v283), (0, vA (some x0)), (2, vI x2), (3, vI x3), (6, vI x6), (7, vI x7)]) B dL_isDrawing_286 (by decide) rfl ?_
  refine g_iconst (pc := 288) B dL_isDrawing_288 (0 : Int32) (by decide) ?_
  refine g_istore (pc := 289) (L' := [(9, vI (0 : Int32)), (8, vI v283), (0, vA (some x0)), (2, vI x2), (3, vI x3), (6, vI x6), (7, vI x7)]) B dL_isDrawing_289 (by decide) rfl ?_
  refine g_aload_n (pc := 291) B dL_isDrawing_291 2 rfl ?_
  refine g_iload_n (pc := 292) B dL_isDrawing_292 3 rfl ?_
  obtain ⟨v293, e293, h⟩ := nT_s h
  refine p_callV (pc := 293) (P := (X.1, (sI X.2 s0 s1.toNatClampNeg s2))) (As := [vI x2]) (st := []) (st10 := [vI v293]) (cs' := 0) (sl' := 0) B cal_X11_strokes kmL_106 kn_X11_strokes ks_X11_strokes hap k283_1 rfl (fun l hl => ct_X11_strokes hl e293) rfl (Nat.le_of_ble_eq_true rfl) (by decide) (by decide) dL_isDrawing_293 rfl rfl rfl rfl ?_
  refine g_iload_n (pc := 296) B dL_isDrawing_296 4 rfl ?_
  refine g_icmp_ne (pc := 297) (tgt := 381) B dL_isDrawing_297 (by decide) (fun c297 => ?_) (fun c297 => ?_)
  · rw [if_neg c297] at h
    refine g_sub (pc := 381) [2, 3, 0] rfl ?_
    exact cb_L_isDrawing_L381 B ht hap h
  · rw [if_pos c297] at h
    refine g_iload (pc := 300) B dL_isDrawing_300 1 rfl ?_
    refine g_sipush (pc := 302) B dL_isDrawing_302 (600 : Int32) (by decide) ?_
    refine g_icmp_gt (pc := 305) (tgt := 381) B dL_isDrawing_305 (by decide) (fun c305 => ?_) (fun c305 => ?_)
    · rw [if_pos c305] at h
      refine g_sub (pc := 381) [2, 3, 0] rfl ?_
      exact cb_L_isDrawing_L381 B ht hap h
    · rw [if_neg c305] at h
      refine g_iload_n (pc := 308) B dL_isDrawing_308 4 rfl ?_
      refine g_iload (pc := 309) B dL_isDrawing_309 1 rfl ?_
      refine g_icmp_gt (pc := 311) (tgt := 381) B dL_isDrawing_311 (by decide) (fun c311 => ?_) (fun c311 => ?_)
      · rw [if_pos c311] at h
        refine g_sub (pc := 381) [2, 3, 0] rfl ?_
        exact cb_L_isDrawing_L381 B ht hap h
      · rw [if_neg c311] at h
        refine g_iload (pc := 314) B dL_isDrawing_314 5 rfl ?_
        refine g_bipush (pc := 316) B dL_isDrawing_316 (16 : Int32) (by decide) ?_
        refine g_icmp_ge (pc := 318) (tgt := 381) B dL_isDrawing_318 (by decide) (fun c318 => ?_) (fun c318 => ?_)
        · rw [if_pos c318] at h
          refine g_sub (pc := 381) [2, 3, 0] rfl ?_
          exact cb_L_isDrawing_L381 B ht hap h
        · rw [if_neg c318] at h
          refine g_iload (pc := 321) B dL_isDrawing_321 6 rfl ?_
          refine g_bipush (pc := 323) B dL_isDrawing_323 (16 : Int32) (by decide) ?_
          refine g_icmp_ge (pc := 325) (tgt := 381) B dL_isDrawing_325 (by decide) (fun c325 => ?_) (fun c325 => ?_)
          · rw [if_pos c325] at h
            refine g_sub (pc := 381) [2, 3, 0] rfl ?_
            exact cb_L_isDrawing_L381 B ht hap h
          · rw [if_neg c325] at h
            refine g_aload_n (pc := 328) B dL_isDrawing_328 2 rfl ?_
            refine g_iload_n (pc := 329) B dL_isDrawing_329 3 rfl ?_
            obtain ⟨v330, e330, h⟩ := nT_s h
            refine p_callV (pc := 330) (P := (X.1, (sI X.2 s0 s1.toNatClampNeg s2))) (As := [vI x2]) (st := []) (st10 := [vI v330]) (cs' := 0) (sl' := 0) B cal_X11_fault kmL_109 kn_X11_fault ks_X11_fault hap k283_1 rfl (fun l hl => ct_X11_fault hl e330) rfl (Nat.le_of_ble_eq_true rfl) (by decide) (by decide) dL_isDrawing_330 rfl rfl rfl rfl ?_
            refine g_iconst (pc := 333) B dL_isDrawing_333 (1 : Int32) (by decide) ?_
            refine g_icmp_ne (pc := 334) (tgt := 345) B dL_isDrawing_334 (by decide) (fun c334 => ?_) (fun c334 => ?_)
            · rw [if_neg c334] at h
              refine g_sub (pc := 345) [2, 3, 4, 1, 0] rfl ?_
              exact cb_L_isDrawing_L345 B ht hap h
            · rw [if_pos c334] at h
              refine g_iload (pc := 337) B dL_isDrawing_337 1 rfl ?_
              refine g_sipush (pc := 339) B dL_isDrawing_339 (600 : Int32) (by decide) ?_
              refine g_icmp_ne (pc := 342) (tgt := 381) B dL_isDrawing_342 (by decide) (fun c342 => ?_) (fun c342 => ?_)
              · rw [if_neg c342] at h
                refine g_sub (pc := 381) [2, 3, 0] rfl ?_
                exact cb_L_isDrawing_L381 B ht hap h
              · rw [if_pos c342] at h
                refine g_sub (pc := 345) [2, 3, 4, 1, 0] rfl ?_
                exact cb_L_isDrawing_L345 B ht hap h
set_option maxRecDepth 100000 in
set_option maxHeartbeats 4000000 in
theorem cb_L_isDrawing_L261 {D : DD} {ev : EV} {X0 : LwP} {fu : Nat} {X : LwP} {x0 : Nat} {x1 : Nat} {x2 : Int32} {x3 : Int32} {x5 : Int32} {x6 : Int32} {x7 : Int32} {s0 : Nat} {s1 : Int32} {s2 : Int32} {r : Int32 × LwP} (B : Amb D (foot (lM X0)) ev RL "isDrawing" cL_isDrawing 13 (some .boolean) rmL_isDrawing) (ht : Tb0 ev) (hap : apM X.1 X.2)  (h : fL_isDrawing_L261 fu X x0 x1 x2 x3 x5 x6 x7 s0 s1 s2 = some r) : Gd D (foot (lM X0)) ev (QF D ev (lM X0) (.inr (some (vI r.1))) (lM r.2) rmL_isDrawing) (lM X) 0 0 261 [(0, vA (some x0)), (1, vA (some x1)), (2, vI x2), (3, vI x3), (5, vI x5), (6, vI x6), (7, vI x7)] [vI s2, vI s1, vA (some s0)] := by
  unfold fL_isDrawing_L261 at h
  obtain ⟨c261, h⟩ := chk h
  refine gp_iast (pc := 261) (P := X) B hap c261 dL_isDrawing_261 ?_
  refine g_aload_n (pc := 262) B dL_isDrawing_262 1 rfl ?_
  refine g_bipush (pc := 263) B dL_isDrawing_263 (50 : Int32) (by decide) ?_
  refine g_iload_n (pc := 265) B dL_isDrawing_265 2 rfl ?_
  refine g_iadd (pc := 266) B dL_isDrawing_266 ?_
  refine g_iload_n (pc := 267) B dL_isDrawing_267 3 rfl ?_
  refine g_if_ne (pc := 268) (tgt := 275) B dL_isDrawing_268 (by decide) (fun c268 => ?_) (fun c268 => ?_)
  · rw [if_neg c268] at h
    refine g_iload (pc := 275) B dL_isDrawing_275 6 rfl ?_
    refine g_iload (pc := 277) B dL_isDrawing_277 4 rfl ?_
    refine g_isub (pc := 279) B dL_isDrawing_279 ?_
    refine g_sub (pc := 280) [0, 2, 3, 5, 6] rfl ?_
    exact cb_L_isDrawing_L280 B ht hap h
  · rw [if_pos c268] at h
    refine g_iconst (pc := 271) B dL_isDrawing_271 (0 : Int32) (by decide) ?_
    refine g_goto (pc := 272) (tgt := 280) B dL_isDrawing_272 (by decide) ?_
    refine g_sub (pc := 280) [0, 2, 3, 5, 6] rfl ?_
    exact cb_L_isDrawing_L280 B ht hap h
set_option maxRecDepth 100000 in
set_option maxHeartbeats 4000000 in
theorem cb_L_isDrawing_L242 {D : DD} {ev : EV} {X0 : LwP} {fu : Nat} {X : LwP} {x0 : Nat} {x1 : Nat} {x2 : Int32} {x3 : Int32} {x4 : Int32} {x5 : Int32} {x6 : Int32} {x7 : Int32} {s0 : Nat} {s1 : Int32} {s2 : Int32} {r : Int32 × LwP} (B : Amb D (foot (lM X0)) ev RL "isDrawing" cL_isDrawing 13 (some .boolean) rmL_isDrawing) (ht : Tb0 ev) (hap : apM X.1 X.2)  (h : fL_isDrawing_L242 fu X x0 x1 x2 x3 x4 x5 x6 x7 s0 s1 s2 = some r) : Gd D (foot (lM X0)) ev (QF D ev (lM X0) (.inr (some (vI r.1))) (lM r.2) rmL_isDrawing) (lM X) 0 0 242 [(0, vA (some x0)), (1, vA (some x1)), (2, vI x2), (3, vI x3), (4, vI x4), (5, vI x5), (6, vI x6), (7, vI x7)] [vI s2, vI s1, vA (some s0)] := by
  unfold fL_isDrawing_L242 at h
  obtain ⟨c242, h⟩ := chk h
  refine gp_iast (pc := 242) (P := X) B hap c242 dL_isDrawing_242 ?_
  refine g_aload_n (pc := 243) B dL_isDrawing_243 1 rfl ?_
  refine g_bipush (pc := 244) B dL_isDrawing_244 (40 : Int32) (by decide) ?_
  refine g_iload_n (pc := 246) B dL_isDrawing_246 2 rfl ?_
  refine g_iadd (pc := 247) B dL_isDrawing_247 ?_
  refine g_iload_n (pc := 248) B dL_isDrawing_248 3 rfl ?_
  refine g_if_ne (pc := 249) (tgt := 256) B dL_isDrawing_249 (by decide) (fun c249 => ?_) (fun c249 => ?_)
  · rw [if_neg c249] at h
    refine g_iload (pc := 256) B dL_isDrawing_256 6 rfl ?_
    refine g_iload (pc := 258) B dL_isDrawing_258 4 rfl ?_
    refine g_isub (pc := 260) B dL_isDrawing_260 ?_
    refine g_sub (pc := 261) [0, 1, 2, 3, 5, 6, 7] rfl ?_
    exact cb_L_isDrawing_L261 B ht hap h
  · rw [if_pos c249] at h
    refine g_iconst (pc := 252) B dL_isDrawing_252 (0 : Int32) (by decide) ?_
    refine g_goto (pc := 253) (tgt := 261) B dL_isDrawing_253 (by decide) ?_
    refine g_sub (pc := 261) [0, 1, 2, 3, 5, 6, 7] rfl ?_
    exact cb_L_isDrawing_L261 B ht hap h
set_option maxRecDepth 100000 in
set_option maxHeartbeats 4000000 in
theorem cb_L_isDrawing_L226 {D : DD} {ev : EV} {X0 : LwP} {fu : Nat} {X : LwP} {x0 : Nat} {x1 : Nat} {x2 : Int32} {x3 : Int32} {x4 : Int32} {x5 : Int32} {x6 : Int32} {x7 : Int32} {s0 : Nat} {s1 : Int32} {s2 : Int32} {r : Int32 × LwP} (B : Amb D (foot (lM X0)) ev RL "isDrawing" cL_isDrawing 13 (some .boolean) rmL_isDrawing) (ht : Tb0 ev) (hap : apM X.1 X.2)  (h : fL_isDrawing_L226 fu X x0 x1 x2 x3 x4 x5 x6 x7 s0 s1 s2 = some r) : Gd D (foot (lM X0)) ev (QF D ev (lM X0) (.inr (some (vI r.1))) (lM r.2) rmL_isDrawing) (lM X) 0 0 226 [(0, vA (some x0)), (1, vA (some x1)), (2, vI x2), (3, vI x3), (4, vI x4), (5, vI x5), (6, vI x6), (7, vI x7)] [vI s2, vI s1, vA (some s0)] := by
  unfold fL_isDrawing_L226 at h
  obtain ⟨c226, h⟩ := chk h
  refine gp_iast (pc := 226) (P := X) B hap c226 dL_isDrawing_226 ?_
  refine g_aload_n (pc := 227) B dL_isDrawing_227 1 rfl ?_
  refine g_bipush (pc := 228) B dL_isDrawing_228 (30 : Int32) (by decide) ?_
  refine g_iload_n (pc := 230) B dL_isDrawing_230 2 rfl ?_
  refine g_iadd (pc := 231) B dL_isDrawing_231 ?_
  refine g_iload_n (pc := 232) B dL_isDrawing_232 3 rfl ?_
  refine g_if_ne (pc := 233) (tgt := 240) B dL_isDrawing_233 (by decide) (fun c233 => ?_) (fun c233 => ?_)
  · rw [if_neg c233] at h
    refine g_iload (pc := 240) B dL_isDrawing_240 5 rfl ?_
    refine g_sub (pc := 242) [0, 1, 2, 3, 4, 5, 6, 7] rfl ?_
    exact cb_L_isDrawing_L242 B ht hap h
  · rw [if_pos c233] at h
    refine g_iconst (pc := 236) B dL_isDrawing_236 (0 : Int32) (by decide) ?_
    refine g_goto (pc := 237) (tgt := 242) B dL_isDrawing_237 (by decide) ?_
    refine g_sub (pc := 242) [0, 1, 2, 3, 4, 5, 6, 7] rfl ?_
    exact cb_L_isDrawing_L242 B ht hap h
set_option maxRecDepth 100000 in
set_option maxHeartbeats 4000000 in
theorem cb_L_isDrawing_L205 {D : DD} {ev : EV} {X0 : LwP} {fu : Nat} {rec19 : LwP → Nat → Nat → Int32 → Int32 → Int32 → Int32 → Int32 → Int32 → Int32 → Option (Int32 × LwP)} {X : LwP} {x0 : Nat} {x1 : Nat} {x2 : Int32} {x3 : Int32} {x4 : Int32} {x5 : Int32} {x6 : Int32} {x7 : Int32} {x8 : Int32} {r : Int32 × LwP} (B : Amb D (foot (lM X0)) ev RL "isDrawing" cL_isDrawing 13 (some .boolean) rmL_isDrawing) (ht : Tb0 ev) (hap : apM X.1 X.2) (hrec19 : ∀ {X : LwP} {x0 : Nat} {x1 : Nat} {x2 : Int32} {x3 : Int32} {x4 : Int32} {x5 : Int32} {x6 : Int32} {x7 : Int32} {x8 : Int32} {r : Int32 × LwP}, apM X.1 X.2 → rec19 X x0 x1 x2 x3 x4 x5 x6 x7 x8 = some r → Gd D (foot (lM X0)) ev (QF D ev (lM X0) (.inr (some (vI r.1))) (lM r.2) rmL_isDrawing) (lM X) 0 0 19 [(0, vA (some x0)), (1, vA (some x1)), (2, vI x2), (3, vI x3), (4, vI x4), (5, vI x5), (6, vI x6), (7, vI x7), (8, vI x8)] []) (h : fL_isDrawing_L205 fu rec19 X x0 x1 x2 x3 x4 x5 x6 x7 x8 = some r) : Gd D (foot (lM X0)) ev (QF D ev (lM X0) (.inr (some (vI r.1))) (lM r.2) rmL_isDrawing) (lM X) 0 0 205 [(0, vA (some x0)), (1, vA (some x1)), (2, vI x2), (3, vI x3), (4, vI x4), (5, vI x5), (6, vI x6), (7, vI x7), (8, vI x8)] [] := by
  unfold fL_isDrawing_L205 at h
  refine g_iinc (pc := 205) (v := (x8 + (1 : Int32))) (L' := [(8, vI (x8 + (1 : Int32))), (0, vA (some x0)), (1, vA (some x1)), (2, vI x2), (3, vI x3), (4, vI x4), (5, vI x5), (6, vI x6), (7, vI x7)]) B dL_isDrawing_205 (by decide) 8 rfl rfl rfl ?_
  refine g_goto (pc := 208) (tgt := 19) B dL_isDrawing_208 (by decide) ?_
  refine g_sub (pc := 19) [1, 2, 3, 4, 5, 6, 7, 8, 0] rfl ?_
  exact hrec19 hap h
set_option maxRecDepth 100000 in
set_option maxHeartbeats 4000000 in
theorem cb_L_isDrawing_L203 {D : DD} {ev : EV} {X0 : LwP} {fu : Nat} {rec19 : LwP → Nat → Nat → Int32 → Int32 → Int32 → Int32 → Int32 → Int32 → Int32 → Option (Int32 × LwP)} {X : LwP} {x0 : Nat} {x1 : Nat} {x2 : Int32} {x3 : Int32} {x4 : Int32} {x5 : Int32} {x6 : Int32} {x8 : Int32} {s0 : Int32} {r : Int32 × LwP} (B : Amb D (foot (lM X0)) ev RL "isDrawing" cL_isDrawing 13 (some .boolean) rmL_isDrawing) (ht : Tb0 ev) (hap : apM X.1 X.2) (hrec19 : ∀ {X : LwP} {x0 : Nat} {x1 : Nat} {x2 : Int32} {x3 : Int32} {x4 : Int32} {x5 : Int32} {x6 : Int32} {x7 : Int32} {x8 : Int32} {r : Int32 × LwP}, apM X.1 X.2 → rec19 X x0 x1 x2 x3 x4 x5 x6 x7 x8 = some r → Gd D (foot (lM X0)) ev (QF D ev (lM X0) (.inr (some (vI r.1))) (lM r.2) rmL_isDrawing) (lM X) 0 0 19 [(0, vA (some x0)), (1, vA (some x1)), (2, vI x2), (3, vI x3), (4, vI x4), (5, vI x5), (6, vI x6), (7, vI x7), (8, vI x8)] []) (h : fL_isDrawing_L203 fu rec19 X x0 x1 x2 x3 x4 x5 x6 x8 s0 = some r) : Gd D (foot (lM X0)) ev (QF D ev (lM X0) (.inr (some (vI r.1))) (lM r.2) rmL_isDrawing) (lM X) 0 0 203 [(0, vA (some x0)), (1, vA (some x1)), (2, vI x2), (3, vI x3), (4, vI x4), (5, vI x5), (6, vI x6), (8, vI x8)] [vI s0] := by
  unfold fL_isDrawing_L203 at h
  refine g_istore (pc := 203) (L' := [(7, vI s0), (0, vA (some x0)), (1, vA (some x1)), (2, vI x2), (3, vI x3), (4, vI x4), (5, vI x5), (6, vI x6), (8, vI x8)]) B dL_isDrawing_203 (by decide) rfl ?_
  refine g_sub (pc := 205) [1, 2, 3, 4, 5, 6, 7, 0, 8] rfl ?_
  exact cb_L_isDrawing_L205 B ht hap hrec19 h
set_option maxRecDepth 100000 in
set_option maxHeartbeats 4000000 in
theorem cb_L_isDrawing_L189 {D : DD} {ev : EV} {X0 : LwP} {fu : Nat} {rec19 : LwP → Nat → Nat → Int32 → Int32 → Int32 → Int32 → Int32 → Int32 → Int32 → Option (Int32 × LwP)} {X : LwP} {x0 : Nat} {x1 : Nat} {x2 : Int32} {x3 : Int32} {x4 : Int32} {x5 : Int32} {x6 : Int32} {x7 : Int32} {x8 : Int32} {x10 : Int32} {r : Int32 × LwP} (B : Amb D (foot (lM X0)) ev RL "isDrawing" cL_isDrawing 13 (some .boolean) rmL_isDrawing) (ht : Tb0 ev) (hap : apM X.1 X.2) (hrec19 : ∀ {X : LwP} {x0 : Nat} {x1 : Nat} {x2 : Int32} {x3 : Int32} {x4 : Int32} {x5 : Int32} {x6 : Int32} {x7 : Int32} {x8 : Int32} {r : Int32 × LwP}, apM X.1 X.2 → rec19 X x0 x1 x2 x3 x4 x5 x6 x7 x8 = some r → Gd D (foot (lM X0)) ev (QF D ev (lM X0) (.inr (some (vI r.1))) (lM r.2) rmL_isDrawing) (lM X) 0 0 19 [(0, vA (some x0)), (1, vA (some x1)), (2, vI x2), (3, vI x3), (4, vI x4), (5, vI x5), (6, vI x6), (7, vI x7), (8, vI x8)] []) (h : fL_isDrawing_L189 fu rec19 X x0 x1 x2 x3 x4 x5 x6 x7 x8 x10 = some r) : Gd D (foot (lM X0)) ev (QF D ev (lM X0) (.inr (some (vI r.1))) (lM r.2) rmL_isDrawing) (lM X) 0 0 189 [(0, vA (some x0)), (1, vA (some x1)), (2, vI x2), (3, vI x3), (4, vI x4), (5, vI x5), (6, vI x6), (7, vI x7), (8, vI x8), (10, vI x10)] [] := by
  unfold fL_isDrawing_L189 at h
  refine g_iload (pc := 189) B dL_isDrawing_189 9 rfl ?_
  refine g_iload (pc := 191) B dL_isDrawing_191 7 rfl ?_
  refine g_icmp_le (pc := 193) (tgt := 201) B dL_isDrawing_193 (by decide) (fun c193 => ?_) (fun c193 => ?_)
  · rw [if_pos c193] at h
    refine g_iload (pc := 201) B dL_isDrawing_201 7 rfl ?_
    refine g_sub (pc := 203) [0, 1, 2, 3, 4, 5, 6, 8] rfl ?_
    exact cb_L_isDrawing_L203 B ht hap hrec19 h
  · rw [if_neg c193] at h
    refine g_iload (pc := 196) B dL_isDrawing_196 9 rfl ?_
    refine g_goto (pc := 198) (tgt := 203) B dL_isDrawing_198 (by decide) ?_
    refine g_sub (pc := 203) [0, 1, 2, 3, 4, 5, 6, 8] rfl ?_
    exact cb_L_isDrawing_L203 B ht hap hrec19 h
set_option maxRecDepth 100000 in
set_option maxHeartbeats 4000000 in
theorem cb_L_isDrawing_L166 {D : DD} {ev : EV} {X0 : LwP} {fu : Nat} {rec19 : LwP → Nat → Nat → Int32 → Int32 → Int32 → Int32 → Int32 → Int32 → Int32 → Option (Int32 × LwP)} {X : LwP} {x0 : Nat} {x1 : Nat} {x2 : Int32} {x3 : Int32} {x4 : Int32} {x5 : Int32} {x7 : Int32} {x8 : Int32} {x10 : Int32} {x12 : Int32} {s0 : Int32} {r : Int32 × LwP} (B : Amb D (foot (lM X0)) ev RL "isDrawing" cL_isDrawing 13 (some .boolean) rmL_isDrawing) (ht : Tb0 ev) (hap : apM X.1 X.2) (hrec19 : ∀ {X : LwP} {x0 : Nat} {x1 : Nat} {x2 : Int32} {x3 : Int32} {x4 : Int32} {x5 : Int32} {x6 : Int32} {x7 : Int32} {x8 : Int32} {r : Int32 × LwP}, apM X.1 X.2 → rec19 X x0 x1 x2 x3 x4 x5 x6 x7 x8 = some r → Gd D (foot (lM X0)) ev (QF D ev (lM X0) (.inr (some (vI r.1))) (lM r.2) rmL_isDrawing) (lM X) 0 0 19 [(0, vA (some x0)), (1, vA (some x1)), (2, vI x2), (3, vI x3), (4, vI x4), (5, vI x5), (6, vI x6), (7, vI x7), (8, vI x8)] []) (h : fL_isDrawing_L166 fu rec19 X x0 x1 x2 x3 x4 x5 x7 x8 x10 x12 s0 = some r) : Gd D (foot (lM X0)) ev (QF D ev (lM X0) (.inr (some (vI r.1))) (lM r.2) rmL_isDrawing) (lM X) 0 0 166 [(0, vA (some x0)), (1, vA (some x1)), (2, vI x2), (3, vI x3), (4, vI x4), (5, vI x5), (7, vI x7), (8, vI x8), (10, vI x10), (12, vI x12)] [vI s0] := by
  unfold fL_isDrawing_L166 at h
  refine g_istore (pc := 166) (L' := [(6, vI s0), (0, vA (some x0)), (1, vA (some x1)), (2, vI x2), (3, vI x3), (4, vI x4), (5, vI x5), (7, vI x7), (8, vI x8), (10, vI x10), (12, vI x12)]) B dL_isDrawing_166 (by decide) rfl ?_
  refine g_iload (pc := 168) B dL_isDrawing_168 10 rfl ?_
  refine g_if_eq (pc := 170) (tgt := 189) B dL_isDrawing_170 (by decide) (fun c170 => ?_) (fun c170 => ?_)
  · rw [if_pos c170] at h
    refine g_sub (pc := 189) [1, 2, 3, 4, 5, 6, 0, 7, 8, 9] rfl ?_
    exact cb_L_isDrawing_L189 B ht hap hrec19 h
  · rw [if_neg c170] at h
    refine g_iload (pc := 173) B dL_isDrawing_173 9 rfl ?_
    refine g_iconst (pc := 175) B dL_isDrawing_175 (1 : Int32) (by decide) ?_
    refine g_iadd (pc := 176) B dL_isDrawing_176 ?_
    refine g_iload (pc := 177) B dL_isDrawing_177 7 rfl ?_
    refine g_icmp_le (pc := 179) (tgt := 189) B dL_isDrawing_179 (by decide) (fun c179 => ?_) (fun c179 => ?_)
    · rw [if_pos c179] at h
      refine g_sub (pc := 189) [1, 2, 3, 4, 5, 6, 0, 7, 8, 9] rfl ?_
      exact cb_L_isDrawing_L189 B ht hap hrec19 h
    · rw [if_neg c179] at h
      refine g_iload (pc := 182) B dL_isDrawing_182 9 rfl ?_
      refine g_iconst (pc := 184) B dL_isDrawing_184 (1 : Int32) (by decide) ?_
      refine g_iadd (pc := 185) B dL_isDrawing_185 ?_
      refine g_goto (pc := 186) (tgt := 203) B dL_isDrawing_186 (by decide) ?_
      refine g_sub (pc := 203) [1, 2, 3, 4, 5, 6, 0, 8] rfl ?_
      exact cb_L_isDrawing_L203 B ht hap hrec19 h
set_option maxRecDepth 100000 in
set_option maxHeartbeats 4000000 in
theorem cb_L_isDrawing_L152 {D : DD} {ev : EV} {X0 : LwP} {fu : Nat} {rec19 : LwP → Nat → Nat → Int32 → Int32 → Int32 → Int32 → Int32 → Int32 → Int32 → Option (Int32 × LwP)} {X : LwP} {x0 : Nat} {x1 : Nat} {x2 : Int32} {x3 : Int32} {x4 : Int32} {x5 : Int32} {x6 : Int32} {x7 : Int32} {x8 : Int32} {x9 : Int32} {x10 : Int32} {x12 : Int32} {r : Int32 × LwP} (B : Amb D (foot (lM X0)) ev RL "isDrawing" cL_isDrawing 13 (some .boolean) rmL_isDrawing) (ht : Tb0 ev) (hap : apM X.1 X.2) (hrec19 : ∀ {X : LwP} {x0 : Nat} {x1 : Nat} {x2 : Int32} {x3 : Int32} {x4 : Int32} {x5 : Int32} {x6 : Int32} {x7 : Int32} {x8 : Int32} {r : Int32 × LwP}, apM X.1 X.2 → rec19 X x0 x1 x2 x3 x4 x5 x6 x7 x8 = some r → Gd D (foot (lM X0)) ev (QF D ev (lM X0) (.inr (some (vI r.1))) (lM r.2) rmL_isDrawing) (lM X) 0 0 19 [(0, vA (some x0)), (1, vA (some x1)), (2, vI x2), (3, vI x3), (4, vI x4), (5, vI x5), (6, vI x6), (7, vI x7), (8, vI x8)] []) (h : fL_isDrawing_L152 fu rec19 X x0 x1 x2 x3 x4 x5 x6 x7 x8 x9 x10 x12 = some r) : Gd D (foot (lM X0)) ev (QF D ev (lM X0) (.inr (some (vI r.1))) (lM r.2) rmL_isDrawing) (lM X) 0 0 152 [(0, vA (some x0)), (1, vA (some x1)), (2, vI x2), (3, vI x3), (4, vI x4), (5, vI x5), (6, vI x6), (7, vI x7), (8, vI x8), (9, vI x9), (10, vI x10), (12, vI x12)] [] := by
  unfold fL_isDrawing_L152 at h
  refine g_iload (pc := 152) B dL_isDrawing_152 9 rfl ?_
  refine g_iload (pc := 154) B dL_isDrawing_154 6 rfl ?_
  refine g_icmp_le (pc := 156) (tgt := 164) B dL_isDrawing_156 (by decide) (fun c156 => ?_) (fun c156 => ?_)
  · rw [if_pos c156] at h
    refine g_iload (pc := 164) B dL_isDrawing_164 6 rfl ?_
    refine g_sub (pc := 166) [0, 1, 2, 3, 4, 5, 7, 8, 10, 11] rfl ?_
    exact cb_L_isDrawing_L166 B ht hap hrec19 h
  · rw [if_neg c156] at h
    refine g_iload (pc := 159) B dL_isDrawing_159 9 rfl ?_
    refine g_goto (pc := 161) (tgt := 166) B dL_isDrawing_161 (by decide) ?_
    refine g_sub (pc := 166) [0, 1, 2, 3, 4, 5, 7, 8, 10, 11] rfl ?_
    exact cb_L_isDrawing_L166 B ht hap hrec19 h
set_option maxRecDepth 100000 in
set_option maxHeartbeats 4000000 in
theorem cb_L_isDrawing_L129 {D : DD} {ev : EV} {X0 : LwP} {fu : Nat} {rec19 : LwP → Nat → Nat → Int32 → Int32 → Int32 → Int32 → Int32 → Int32 → Int32 → Option (Int32 × LwP)} {X : LwP} {x0 : Nat} {x1 : Nat} {x2 : Int32} {x3 : Int32} {x4 : Int32} {x6 : Int32} {x7 : Int32} {x8 : Int32} {x9 : Int32} {x10 : Int32} {x11 : Int32} {x12 : Int32} {s0 : Int32} {r : Int32 × LwP} (B : Amb D (foot (lM X0)) ev RL "isDrawing" cL_isDrawing 13 (some .boolean) rmL_isDrawing) (ht : Tb0 ev) (hap : apM X.1 X.2) (hrec19 : ∀ {X : LwP} {x0 : Nat} {x1 : Nat} {x2 : Int32} {x3 : Int32} {x4 : Int32} {x5 : Int32} {x6 : Int32} {x7 : Int32} {x8 : Int32} {r : Int32 × LwP}, apM X.1 X.2 → rec19 X x0 x1 x2 x3 x4 x5 x6 x7 x8 = some r → Gd D (foot (lM X0)) ev (QF D ev (lM X0) (.inr (some (vI r.1))) (lM r.2) rmL_isDrawing) (lM X) 0 0 19 [(0, vA (some x0)), (1, vA (some x1)), (2, vI x2), (3, vI x3), (4, vI x4), (5, vI x5), (6, vI x6), (7, vI x7), (8, vI x8)] []) (h : fL_isDrawing_L129 fu rec19 X x0 x1 x2 x3 x4 x6 x7 x8 x9 x10 x11 x12 s0 = some r) : Gd D (foot (lM X0)) ev (QF D ev (lM X0) (.inr (some (vI r.1))) (lM r.2) rmL_isDrawing) (lM X) 0 0 129 [(0, vA (some x0)), (1, vA (some x1)), (2, vI x2), (3, vI x3), (4, vI x4), (6, vI x6), (7, vI x7), (8, vI x8), (9, vI x9), (10, vI x10), (11, vI x11), (12, vI x12)] [vI s0] := by
  unfold fL_isDrawing_L129 at h
  refine g_istore (pc := 129) (L' := [(5, vI s0), (0, vA (some x0)), (1, vA (some x1)), (2, vI x2), (3, vI x3), (4, vI x4), (6, vI x6), (7, vI x7), (8, vI x8), (9, vI x9), (10, vI x10), (11, vI x11), (12, vI x12)]) B dL_isDrawing_129 (by decide) rfl ?_
  refine g_iload (pc := 131) B dL_isDrawing_131 11 rfl ?_
  refine g_if_eq (pc := 133) (tgt := 152) B dL_isDrawing_133 (by decide) (fun c133 => ?_) (fun c133 => ?_)
  · rw [if_pos c133] at h
    refine g_sub (pc := 152) [1, 2, 3, 4, 5, 0, 6, 7, 8, 9, 10, 12] rfl ?_
    exact cb_L_isDrawing_L152 B ht hap hrec19 h
  · rw [if_neg c133] at h
    refine g_iload (pc := 136) B dL_isDrawing_136 9 rfl ?_
    refine g_iconst (pc := 138) B dL_isDrawing_138 (1 : Int32) (by decide) ?_
    refine g_iadd (pc := 139) B dL_isDrawing_139 ?_
    refine g_iload (pc := 140) B dL_isDrawing_140 6 rfl ?_
    refine g_icmp_le (pc := 142) (tgt := 152) B dL_isDrawing_142 (by decide) (fun c142 => ?_) (fun c142 => ?_)
    · rw [if_pos c142] at h
      refine g_sub (pc := 152) [1, 2, 3, 4, 5, 0, 6, 7, 8, 9, 10, 12] rfl ?_
      exact cb_L_isDrawing_L152 B ht hap hrec19 h
    · rw [if_neg c142] at h
      refine g_iload (pc := 145) B dL_isDrawing_145 9 rfl ?_
      refine g_iconst (pc := 147) B dL_isDrawing_147 (1 : Int32) (by decide) ?_
      refine g_iadd (pc := 148) B dL_isDrawing_148 ?_
      refine g_goto (pc := 149) (tgt := 166) B dL_isDrawing_149 (by decide) ?_
      refine g_sub (pc := 166) [1, 2, 3, 4, 5, 0, 7, 8, 10, 12] rfl ?_
      exact cb_L_isDrawing_L166 B ht hap hrec19 h
set_option maxRecDepth 100000 in
set_option maxHeartbeats 4000000 in
theorem cb_L_isDrawing_L113 {D : DD} {ev : EV} {X0 : LwP} {fu : Nat} {rec19 : LwP → Nat → Nat → Int32 → Int32 → Int32 → Int32 → Int32 → Int32 → Int32 → Option (Int32 × LwP)} {X : LwP} {x0 : Nat} {x1 : Nat} {x2 : Int32} {x3 : Int32} {x5 : Int32} {x6 : Int32} {x7 : Int32} {x8 : Int32} {x9 : Int32} {x10 : Int32} {x11 : Int32} {x12 : Int32} {s0 : Int32} {r : Int32 × LwP} (B : Amb D (foot (lM X0)) ev RL "isDrawing" cL_isDrawing 13 (some .boolean) rmL_isDrawing) (ht : Tb0 ev) (hap : apM X.1 X.2) (hrec19 : ∀ {X : LwP} {x0 : Nat} {x1 : Nat} {x2 : Int32} {x3 : Int32} {x4 : Int32} {x5 : Int32} {x6 : Int32} {x7 : Int32} {x8 : Int32} {r : Int32 × LwP}, apM X.1 X.2 → rec19 X x0 x1 x2 x3 x4 x5 x6 x7 x8 = some r → Gd D (foot (lM X0)) ev (QF D ev (lM X0) (.inr (some (vI r.1))) (lM r.2) rmL_isDrawing) (lM X) 0 0 19 [(0, vA (some x0)), (1, vA (some x1)), (2, vI x2), (3, vI x3), (4, vI x4), (5, vI x5), (6, vI x6), (7, vI x7), (8, vI x8)] []) (h : fL_isDrawing_L113 fu rec19 X x0 x1 x2 x3 x5 x6 x7 x8 x9 x10 x11 x12 s0 = some r) : Gd D (foot (lM X0)) ev (QF D ev (lM X0) (.inr (some (vI r.1))) (lM r.2) rmL_isDrawing) (lM X) 0 0 113 [(0, vA (some x0)), (1, vA (some x1)), (2, vI x2), (3, vI x3), (5, vI x5), (6, vI x6), (7, vI x7), (8, vI x8), (9, vI x9), (10, vI x10), (11, vI x11), (12, vI x12)] [vI s0] := by
  unfold fL_isDrawing_L113 at h
  refine g_istore (pc := 113) (L' := [(4, vI s0), (0, vA (some x0)), (1, vA (some x1)), (2, vI x2), (3, vI x3), (5, vI x5), (6, vI x6), (7, vI x7), (8, vI x8), (9, vI x9), (10, vI x10), (11, vI x11), (12, vI x12)]) B dL_isDrawing_113 (by decide) rfl ?_
  refine g_iload (pc := 115) B dL_isDrawing_115 10 rfl ?_
  refine g_iload (pc := 117) B dL_isDrawing_117 5 rfl ?_
  refine g_icmp_ge (pc := 119) (tgt := 127) B dL_isDrawing_119 (by decide) (fun c119 => ?_) (fun c119 => ?_)
  · rw [if_pos c119] at h
    refine g_iload (pc := 127) B dL_isDrawing_127 5 rfl ?_
    refine g_sub (pc := 129) [1, 2, 3, 4, 0, 6, 7, 8, 9, 10, 11, 12] rfl ?_
    exact cb_L_isDrawing_L129 B ht hap hrec19 h
  · rw [if_neg c119] at h
    refine g_iload (pc := 122) B dL_isDrawing_122 10 rfl ?_
    refine g_goto (pc := 124) (tgt := 129) B dL_isDrawing_124 (by decide) ?_
    refine g_sub (pc := 129) [1, 2, 3, 4, 0, 6, 7, 8, 9, 10, 11, 12] rfl ?_
    exact cb_L_isDrawing_L129 B ht hap hrec19 h
set_option maxRecDepth 100000 in
set_option maxHeartbeats 4000000 in
theorem cb_L_isDrawing_L99 {D : DD} {ev : EV} {X0 : LwP} {fu : Nat} {rec19 : LwP → Nat → Nat → Int32 → Int32 → Int32 → Int32 → Int32 → Int32 → Int32 → Option (Int32 × LwP)} {X : LwP} {x0 : Nat} {x1 : Nat} {x2 : Int32} {x3 : Int32} {x4 : Int32} {x5 : Int32} {x6 : Int32} {x7 : Int32} {x8 : Int32} {x9 : Int32} {x10 : Int32} {x11 : Int32} {x12 : Int32} {r : Int32 × LwP} (B : Amb D (foot (lM X0)) ev RL "isDrawing" cL_isDrawing 13 (some .boolean) rmL_isDrawing) (ht : Tb0 ev) (hap : apM X.1 X.2) (hrec19 : ∀ {X : LwP} {x0 : Nat} {x1 : Nat} {x2 : Int32} {x3 : Int32} {x4 : Int32} {x5 : Int32} {x6 : Int32} {x7 : Int32} {x8 : Int32} {r : Int32 × LwP}, apM X.1 X.2 → rec19 X x0 x1 x2 x3 x4 x5 x6 x7 x8 = some r → Gd D (foot (lM X0)) ev (QF D ev (lM X0) (.inr (some (vI r.1))) (lM r.2) rmL_isDrawing) (lM X) 0 0 19 [(0, vA (some x0)), (1, vA (some x1)), (2, vI x2), (3, vI x3), (4, vI x4), (5, vI x5), (6, vI x6), (7, vI x7), (8, vI x8)] []) (h : fL_isDrawing_L99 fu rec19 X x0 x1 x2 x3 x4 x5 x6 x7 x8 x9 x10 x11 x12 = some r) : Gd D (foot (lM X0)) ev (QF D ev (lM X0) (.inr (some (vI r.1))) (lM r.2) rmL_isDrawing) (lM X) 0 0 99 [(0, vA (some x0)), (1, vA (some x1)), (2, vI x2), (3, vI x3), (4, vI x4), (5, vI x5), (6, vI x6), (7, vI x7), (8, vI x8), (9, vI x9), (10, vI x10), (11, vI x11), (12, vI x12)] [] := by
  unfold fL_isDrawing_L99 at h
  refine g_iload (pc := 99) B dL_isDrawing_99 9 rfl ?_
  refine g_iload (pc := 101) B dL_isDrawing_101 4 rfl ?_
  refine g_icmp_ge (pc := 103) (tgt := 111) B dL_isDrawing_103 (by decide) (fun c103 => ?_) (fun c103 => ?_)
  · rw [if_pos c103] at h
    refine g_iload (pc := 111) B dL_isDrawing_111 4 rfl ?_
    refine g_sub (pc := 113) [0, 1, 2, 3, 5, 6, 7, 8, 9, 10, 11, 12] rfl ?_
    exact cb_L_isDrawing_L113 B ht hap hrec19 h
  · rw [if_neg c103] at h
    refine g_iload (pc := 106) B dL_isDrawing_106 9 rfl ?_
    refine g_goto (pc := 108) (tgt := 113) B dL_isDrawing_108 (by decide) ?_
    refine g_sub (pc := 113) [0, 1, 2, 3, 5, 6, 7, 8, 9, 10, 11, 12] rfl ?_
    exact cb_L_isDrawing_L113 B ht hap hrec19 h
set_option maxRecDepth 100000 in
set_option maxHeartbeats 4000000 in
theorem cb_L_isDrawing_L86 {D : DD} {ev : EV} {X0 : LwP} {fu : Nat} {rec19 : LwP → Nat → Nat → Int32 → Int32 → Int32 → Int32 → Int32 → Int32 → Int32 → Option (Int32 × LwP)} {X : LwP} {x0 : Nat} {x1 : Nat} {x2 : Int32} {x4 : Int32} {x5 : Int32} {x6 : Int32} {x7 : Int32} {x8 : Int32} {x9 : Int32} {x10 : Int32} {x11 : Int32} {x12 : Int32} {s0 : Int32} {s1 : Int32} {s2 : Int32} {r : Int32 × LwP} (B : Amb D (foot (lM X0)) ev RL "isDrawing" cL_isDrawing 13 (some .boolean) rmL_isDrawing) (ht : Tb0 ev) (hap : apM X.1 X.2) (hrec19 : ∀ {X : LwP} {x0 : Nat} {x1 : Nat} {x2 : Int32} {x3 : Int32} {x4 : Int32} {x5 : Int32} {x6 : Int32} {x7 : Int32} {x8 : Int32} {r : Int32 × LwP}, apM X.1 X.2 → rec19 X x0 x1 x2 x3 x4 x5 x6 x7 x8 = some r → Gd D (foot (lM X0)) ev (QF D ev (lM X0) (.inr (some (vI r.1))) (lM r.2) rmL_isDrawing) (lM X) 0 0 19 [(0, vA (some x0)), (1, vA (some x1)), (2, vI x2), (3, vI x3), (4, vI x4), (5, vI x5), (6, vI x6), (7, vI x7), (8, vI x8)] []) (h : fL_isDrawing_L86 fu rec19 X x0 x1 x2 x4 x5 x6 x7 x8 x9 x10 x11 x12 s0 s1 s2 = some r) : Gd D (foot (lM X0)) ev (QF D ev (lM X0) (.inr (some (vI r.1))) (lM r.2) rmL_isDrawing) (lM X) 0 0 86 [(0, vA (some x0)), (1, vA (some x1)), (2, vI x2), (4, vI x4), (5, vI x5), (6, vI x6), (7, vI x7), (8, vI x8), (9, vI x9), (10, vI x10), (11, vI x11), (12, vI x12)] [vI s2, vI s1, vI s0] := by
  unfold fL_isDrawing_L86 at h
  refine g_iadd (pc := 86) B dL_isDrawing_86 ?_
  refine g_iadd (pc := 87) B dL_isDrawing_87 ?_
  refine g_istore_n (pc := 88) (L' := [(3, vI (s0 + (s1 + s2))), (0, vA (some x0)), (1, vA (some x1)), (2, vI x2), (4, vI x4), (5, vI x5), (6, vI x6), (7, vI x7), (8, vI x8), (9, vI x9), (10, vI x10), (11, vI x11), (12, vI x12)]) B dL_isDrawing_88 (by decide) rfl ?_
  refine g_iload (pc := 89) B dL_isDrawing_89 11 rfl ?_
  refine g_if_ne (pc := 91) (tgt := 99) B dL_isDrawing_91 (by decide) (fun c91 => ?_) (fun c91 => ?_)
  · rw [if_neg c91] at h
    refine g_sub (pc := 99) [1, 2, 3, 0, 4, 5, 6, 7, 8, 9, 10, 11, 12] rfl ?_
    exact cb_L_isDrawing_L99 B ht hap hrec19 h
  · rw [if_pos c91] at h
    refine g_iload (pc := 94) B dL_isDrawing_94 12 rfl ?_
    refine g_if_eq (pc := 96) (tgt := 205) B dL_isDrawing_96 (by decide) (fun c96 => ?_) (fun c96 => ?_)
    · rw [if_pos c96] at h
      refine g_sub (pc := 205) [1, 2, 3, 0, 4, 5, 6, 7, 8] rfl ?_
      exact cb_L_isDrawing_L205 B ht hap hrec19 h
    · rw [if_neg c96] at h
      refine g_sub (pc := 99) [1, 2, 3, 0, 4, 5, 6, 7, 8, 9, 10, 11, 12] rfl ?_
      exact cb_L_isDrawing_L99 B ht hap hrec19 h
set_option maxRecDepth 100000 in
set_option maxHeartbeats 4000000 in
theorem cb_L_isDrawing_L76 {D : DD} {ev : EV} {X0 : LwP} {fu : Nat} {rec19 : LwP → Nat → Nat → Int32 → Int32 → Int32 → Int32 → Int32 → Int32 → Int32 → Option (Int32 × LwP)} {X : LwP} {x0 : Nat} {x1 : Nat} {x2 : Int32} {x4 : Int32} {x5 : Int32} {x6 : Int32} {x7 : Int32} {x8 : Int32} {x9 : Int32} {x10 : Int32} {x11 : Int32} {x12 : Int32} {s0 : Int32} {s1 : Int32} {r : Int32 × LwP} (B : Amb D (foot (lM X0)) ev RL "isDrawing" cL_isDrawing 13 (some .boolean) rmL_isDrawing) (ht : Tb0 ev) (hap : apM X.1 X.2) (hrec19 : ∀ {X : LwP} {x0 : Nat} {x1 : Nat} {x2 : Int32} {x3 : Int32} {x4 : Int32} {x5 : Int32} {x6 : Int32} {x7 : Int32} {x8 : Int32} {r : Int32 × LwP}, apM X.1 X.2 → rec19 X x0 x1 x2 x3 x4 x5 x6 x7 x8 = some r → Gd D (foot (lM X0)) ev (QF D ev (lM X0) (.inr (some (vI r.1))) (lM r.2) rmL_isDrawing) (lM X) 0 0 19 [(0, vA (some x0)), (1, vA (some x1)), (2, vI x2), (3, vI x3), (4, vI x4), (5, vI x5), (6, vI x6), (7, vI x7), (8, vI x8)] []) (h : fL_isDrawing_L76 fu rec19 X x0 x1 x2 x4 x5 x6 x7 x8 x9 x10 x11 x12 s0 s1 = some r) : Gd D (foot (lM X0)) ev (QF D ev (lM X0) (.inr (some (vI r.1))) (lM r.2) rmL_isDrawing) (lM X) 0 0 76 [(0, vA (some x0)), (1, vA (some x1)), (2, vI x2), (4, vI x4), (5, vI x5), (6, vI x6), (7, vI x7), (8, vI x8), (9, vI x9), (10, vI x10), (11, vI x11), (12, vI x12)] [vI s1, vI s0] := by
  unfold fL_isDrawing_L76 at h
  refine g_iload (pc := 76) B dL_isDrawing_76 11 rfl ?_
  refine g_if_eq (pc := 78) (tgt := 85) B dL_isDrawing_78 (by decide) (fun c78 => ?_) (fun c78 => ?_)
  · rw [if_pos c78] at h
    refine g_iconst (pc := 85) B dL_isDrawing_85 (0 : Int32) (by decide) ?_
    refine g_sub (pc := 86) [0, 1, 2, 3, 4, 5, 6, 7, 8, 9, 10, 11] rfl ?_
    exact cb_L_isDrawing_L86 B ht hap hrec19 h
  · rw [if_neg c78] at h
    refine g_iconst (pc := 81) B dL_isDrawing_81 (1 : Int32) (by decide) ?_
    refine g_goto (pc := 82) (tgt := 86) B dL_isDrawing_82 (by decide) ?_
    refine g_sub (pc := 86) [0, 1, 2, 3, 4, 5, 6, 7, 8, 9, 10, 11] rfl ?_
    exact cb_L_isDrawing_L86 B ht hap hrec19 h
set_option maxRecDepth 100000 in
set_option maxHeartbeats 4000000 in
theorem cb_L_isDrawing_L19b {D : DD} {ev : EV} {X0 : LwP} {fu : Nat} {rec19 : LwP → Nat → Nat → Int32 → Int32 → Int32 → Int32 → Int32 → Int32 → Int32 → Option (Int32 × LwP)} {X : LwP} {x0 : Nat} {x1 : Nat} {x2 : Int32} {x3 : Int32} {x4 : Int32} {x5 : Int32} {x6 : Int32} {x7 : Int32} {x8 : Int32} {r : Int32 × LwP} (B : Amb D (foot (lM X0)) ev RL "isDrawing" cL_isDrawing 13 (some .boolean) rmL_isDrawing) (ht : Tb0 ev) (hap : apM X.1 X.2) (hrec19 : ∀ {X : LwP} {x0 : Nat} {x1 : Nat} {x2 : Int32} {x3 : Int32} {x4 : Int32} {x5 : Int32} {x6 : Int32} {x7 : Int32} {x8 : Int32} {r : Int32 × LwP}, apM X.1 X.2 → rec19 X x0 x1 x2 x3 x4 x5 x6 x7 x8 = some r → Gd D (foot (lM X0)) ev (QF D ev (lM X0) (.inr (some (vI r.1))) (lM r.2) rmL_isDrawing) (lM X) 0 0 19 [(0, vA (some x0)), (1, vA (some x1)), (2, vI x2), (3, vI x3), (4, vI x4), (5, vI x5), (6, vI x6), (7, vI x7), (8, vI x8)] []) (h : fL_isDrawing_L19b fu rec19 X x0 x1 x2 x3 x4 x5 x6 x7 x8 = some r) : Gd D (foot (lM X0)) ev (QF D ev (lM X0) (.inr (some (vI r.1))) (lM r.2) rmL_isDrawing) (lM X) 0 0 19 [(0, vA (some x0)), (1, vA (some x1)), (2, vI x2), (3, vI x3), (4, vI x4), (5, vI x5), (6, vI x6), (7, vI x7), (8, vI x8)] [] := by
  unfold fL_isDrawing_L19b at h
  refine g_iload (pc := 19) B dL_isDrawing_19 8 rfl ?_
  refine g_sipush (pc := 21) B dL_isDrawing_21 (256 : Int32) (by decide) ?_
  refine g_icmp_ge (pc := 24) (tgt := 211) B dL_isDrawing_24 (by decide) (fun c24 => ?_) (fun c24 => ?_)
  · rw [if_pos c24] at h
    refine g_aload_n (pc := 211) B dL_isDrawing_211 1 rfl ?_
    refine g_bipush (pc := 212) B dL_isDrawing_212 (20 : Int32) (by decide) ?_
    refine g_iload_n (pc := 214) B dL_isDrawing_214 2 rfl ?_
    refine g_iadd (pc := 215) B dL_isDrawing_215 ?_
    refine g_iload_n (pc := 216) B dL_isDrawing_216 3 rfl ?_
    refine g_if_ne (pc := 217) (tgt := 224) B dL_isDrawing_217 (by decide) (fun c217 => ?_) (fun c217 => ?_)
    · rw [if_neg c217] at h
      refine g_iload (pc := 224) B dL_isDrawing_224 4 rfl ?_
      refine g_sub (pc := 226) [0, 1, 2, 3, 4, 5, 6, 7] rfl ?_
      exact cb_L_isDrawing_L226 B ht hap h
    · rw [if_pos c217] at h
      refine g_iconst (pc := 220) B dL_isDrawing_220 (0 : Int32) (by decide) ?_
      refine g_goto (pc := 221) (tgt := 226) B dL_isDrawing_221 (by decide) ?_
      refine g_sub (pc := 226) [0, 1, 2, 3, 4, 5, 6, 7] rfl ?_
      exact cb_L_isDrawing_L226 B ht hap h
  · rw [if_neg c24] at h
    refine g_iload (pc := 27) B dL_isDrawing_27 8 rfl ?_
    refine g_bipush (pc := 29) B dL_isDrawing_29 (16 : Int32) (by decide) ?_
    refine g_irem (pc := 31) B dL_isDrawing_31 (by decide) ?_
    refine g_istore (pc := 32) (L' := [(9, vI (x8 - x8 / (16 : Int32) * (16 : Int32))), (0, vA (some x0)), (1, vA (some x1)), (2, vI x2), (3, vI x3), (4, vI x4), (5, vI x5), (6, vI x6), (7, vI x7), (8, vI x8)]) B dL_isDrawing_32 (by decide) rfl ?_
    refine g_iload (pc := 34) B dL_isDrawing_34 9 rfl ?_
    refine g_bipush (pc := 36) B dL_isDrawing_36 (16 : Int32) (by decide) ?_
    refine g_idiv (pc := 38) B dL_isDrawing_38 (by decide) ?_
    refine g_istore (pc := 39) (L' := [(10, vI (x8 / (16 : Int32))), (9, vI (x8 - x8 / (16 : Int32) * (16 : Int32))), (0, vA (some x0)), (1, vA (some x1)), (2, vI x2), (3, vI x3), (4, vI x4), (5, vI x5), (6, vI x6), (7, vI x7), (8, vI x8)]) B dL_isDrawing_39 (by decide) rfl ?_
    refine g_aload_n (pc := 41) B dL_isDrawing_41 2 rfl ?_
    refine g_iload_n (pc := 42) B dL_isDrawing_42 4 rfl ?_
    refine g_iload (pc := 43) B dL_isDrawing_43 1 rfl ?_
    refine g_iload (pc := 45) B dL_isDrawing_45 0 rfl ?_
    refine g_iconst (pc := 47) B dL_isDrawing_47 (0 : Int32) (by decide) ?_
    obtain ⟨k48_1, h⟩ := chk h
    obtain ⟨v48, e48, h⟩ := nT_s h
    refine p_callV (pc := 48) (P := X) (As := [vI x2, vI (x8 - x8 / (16 : Int32) * (16 : Int32)), vI (x8 / (16 : Int32)), vI (0 : Int32)]) (st := []) (st10 := [vI v48]) (cs' := 0) (sl' := 0) B cal_X11_isDrawn kmL_99 kn_X11_isDrawn ks_X11_isDrawn hap k48_1 rfl (fun l hl => ct_X11_isDrawn hl e48) rfl (Nat.le_of_ble_eq_true rfl) (by decide) (by decide) dL_isDrawing_48 rfl rfl rfl rfl ?_
    refine g_istore (pc := 51) (L' := [(11, vI v48), (10, vI (x8 / (16 : Int32))), (9, vI (x8 - x8 / (16 : Int32) * (16 : Int32))), (0, vA (some x0)), (1, vA (some x1)), (2, vI x2), (3, vI x3), (4, vI x4), (5, vI x5), (6, vI x6), (7, vI x7), (8, vI x8)]) B dL_isDrawing_51 (by decide) rfl ?_
    refine g_aload_n (pc := 53) B dL_isDrawing_53 3 rfl ?_
    refine g_iload_n (pc := 54) B dL_isDrawing_54 5 rfl ?_
    refine g_iload (pc := 55) B dL_isDrawing_55 2 rfl ?_
    refine g_iload (pc := 57) B dL_isDrawing_57 1 rfl ?_
    refine g_iconst (pc := 59) B dL_isDrawing_59 (1 : Int32) (by decide) ?_
    obtain ⟨v60, e60, h⟩ := nT_s h
    refine p_callV (pc := 60) (P := X) (As := [vI x2, vI (x8 - x8 / (16 : Int32) * (16 : Int32)), vI (x8 / (16 : Int32)), vI (1 : Int32)]) (st := []) (st10 := [vI v60]) (cs' := 0) (sl' := 0) B cal_X11_isDrawn kmL_99 kn_X11_isDrawn ks_X11_isDrawn hap k48_1 rfl (fun l hl => ct_X11_isDrawn hl e60) rfl (Nat.le_of_ble_eq_true rfl) (by decide) (by decide) dL_isDrawing_60 rfl rfl rfl rfl ?_
    refine g_istore (pc := 63) (L' := [(12, vI v60), (11, vI v48), (10, vI (x8 / (16 : Int32))), (9, vI (x8 - x8 / (16 : Int32) * (16 : Int32))), (0, vA (some x0)), (1, vA (some x1)), (2, vI x2), (3, vI x3), (4, vI x4), (5, vI x5), (6, vI x6), (7, vI x7), (8, vI x8)]) B dL_isDrawing_63 (by decide) rfl ?_
    refine g_iload_n (pc := 65) B dL_isDrawing_65 7 rfl ?_
    refine g_iload (pc := 66) B dL_isDrawing_66 1 rfl ?_
    refine g_if_eq (pc := 68) (tgt := 75) B dL_isDrawing_68 (by decide) (fun c68 => ?_) (fun c68 => ?_)
    · rw [if_pos c68] at h
      refine g_iconst (pc := 75) B dL_isDrawing_75 (0 : Int32) (by decide) ?_
      refine g_sub (pc := 76) [4, 5, 6, 8, 9, 10, 11, 12, 3, 2, 1, 0] rfl ?_
      exact cb_L_isDrawing_L76 B ht hap hrec19 h
    · rw [if_neg c68] at h
      refine g_iconst (pc := 71) B dL_isDrawing_71 (1 : Int32) (by decide) ?_
      refine g_goto (pc := 72) (tgt := 76) B dL_isDrawing_72 (by decide) ?_
      refine g_sub (pc := 76) [4, 5, 6, 8, 9, 10, 11, 12, 3, 2, 1, 0] rfl ?_
      exact cb_L_isDrawing_L76 B ht hap hrec19 h
theorem cb_L_isDrawing_L19n {D : DD} {ev : EV} {X0 : LwP} {fu : Nat} (B : Amb D (foot (lM X0)) ev RL "isDrawing" cL_isDrawing 13 (some .boolean) rmL_isDrawing) (ht : Tb0 ev)  : ∀ (n : Nat) {X : LwP} {x0 : Nat} {x1 : Nat} {x2 : Int32} {x3 : Int32} {x4 : Int32} {x5 : Int32} {x6 : Int32} {x7 : Int32} {x8 : Int32} {r : Int32 × LwP}, apM X.1 X.2 → fL_isDrawing_L19 fu n X x0 x1 x2 x3 x4 x5 x6 x7 x8 = some r → Gd D (foot (lM X0)) ev (QF D ev (lM X0) (.inr (some (vI r.1))) (lM r.2) rmL_isDrawing) (lM X) 0 0 19 [(0, vA (some x0)), (1, vA (some x1)), (2, vI x2), (3, vI x3), (4, vI x4), (5, vI x5), (6, vI x6), (7, vI x7), (8, vI x8)] [] := by
  intro n
  induction n with
  | zero => intro X x0 x1 x2 x3 x4 x5 x6 x7 x8 r hap h; exact nomatch h
  | succ n ih => intro X x0 x1 x2 x3 x4 x5 x6 x7 x8 r hap h; exact cb_L_isDrawing_L19b (fu := fu) B ht hap (fun hap9 h9 => ih hap9 h9) h
theorem cb_L_isDrawing_L19 {D : DD} {ev : EV} {X0 : LwP} {fu : Nat} {X : LwP} {x0 : Nat} {x1 : Nat} {x2 : Int32} {x3 : Int32} {x4 : Int32} {x5 : Int32} {x6 : Int32} {x7 : Int32} {x8 : Int32} {n : Nat} {r : Int32 × LwP} (B : Amb D (foot (lM X0)) ev RL "isDrawing" cL_isDrawing 13 (some .boolean) rmL_isDrawing) (ht : Tb0 ev) (hap : apM X.1 X.2)  (h : fL_isDrawing_L19 fu n X x0 x1 x2 x3 x4 x5 x6 x7 x8 = some r) : Gd D (foot (lM X0)) ev (QF D ev (lM X0) (.inr (some (vI r.1))) (lM r.2) rmL_isDrawing) (lM X) 0 0 19 [(0, vA (some x0)), (1, vA (some x1)), (2, vI x2), (3, vI x3), (4, vI x4), (5, vI x5), (6, vI x6), (7, vI x7), (8, vI x8)] [] := cb_L_isDrawing_L19n B ht n hap h
set_option maxRecDepth 100000 in
set_option maxHeartbeats 4000000 in
theorem cb_L_isDrawing_L0 {D : DD} {ev : EV} {X0 : LwP} {fu : Nat} {X : LwP} {x0 : Nat} {x1 : Nat} {x2 : Int32} {r : Int32 × LwP} (B : Amb D (foot (lM X0)) ev RL "isDrawing" cL_isDrawing 13 (some .boolean) rmL_isDrawing) (ht : Tb0 ev) (hap : apM X.1 X.2)  (h : fL_isDrawing fu X x0 x1 x2 = some r) : Gd D (foot (lM X0)) ev (QF D ev (lM X0) (.inr (some (vI r.1))) (lM r.2) rmL_isDrawing) (lM X) 0 0 0 [(0, vA (some x0)), (1, vA (some x1)), (2, vI x2)] [] := by
  unfold fL_isDrawing at h
  refine g_iconst (pc := 0) B dL_isDrawing_0 (0 : Int32) (by decide) ?_
  refine g_istore_n (pc := 1) (L' := [(3, vI (0 : Int32)), (0, vA (some x0)), (1, vA (some x1)), (2, vI x2)]) B dL_isDrawing_1 (by decide) rfl ?_
  refine g_bipush (pc := 2) B dL_isDrawing_2 (16 : Int32) (by decide) ?_
  refine g_istore (pc := 4) (L' := [(4, vI (16 : Int32)), (3, vI (0 : Int32)), (0, vA (some x0)), (1, vA (some x1)), (2, vI x2)]) B dL_isDrawing_4 (by decide) rfl ?_
  refine g_bipush (pc := 6) B dL_isDrawing_6 (16 : Int32) (by decide) ?_
  refine g_istore (pc := 8) (L' := [(5, vI (16 : Int32)), (4, vI (16 : Int32)), (3, vI (0 : Int32)), (0, vA (some x0)), (1, vA (some x1)), (2, vI x2)]) B dL_isDrawing_8 (by decide) rfl ?_
  refine g_iconst (pc := 10) B dL_isDrawing_10 (-1) (by decide) ?_
  refine g_istore (pc := 11) (L' := [(6, vI (-1)), (5, vI (16 : Int32)), (4, vI (16 : Int32)), (3, vI (0 : Int32)), (0, vA (some x0)), (1, vA (some x1)), (2, vI x2)]) B dL_isDrawing_11 (by decide) rfl ?_
  refine g_iconst (pc := 13) B dL_isDrawing_13 (-1) (by decide) ?_
  refine g_istore (pc := 14) (L' := [(7, vI (-1)), (6, vI (-1)), (5, vI (16 : Int32)), (4, vI (16 : Int32)), (3, vI (0 : Int32)), (0, vA (some x0)), (1, vA (some x1)), (2, vI x2)]) B dL_isDrawing_14 (by decide) rfl ?_
  refine g_iconst (pc := 16) B dL_isDrawing_16 (0 : Int32) (by decide) ?_
  refine g_istore (pc := 17) (L' := [(8, vI (0 : Int32)), (7, vI (-1)), (6, vI (-1)), (5, vI (16 : Int32)), (4, vI (16 : Int32)), (3, vI (0 : Int32)), (0, vA (some x0)), (1, vA (some x1)), (2, vI x2)]) B dL_isDrawing_17 (by decide) rfl ?_
  refine g_sub (pc := 19) [6, 7, 8, 5, 4, 3, 2, 1, 0] rfl ?_
  exact cb_L_isDrawing_L19 B ht hap h
theorem ct_L_isDrawing {D : DD} {l : Launch} {X0 : LwP} {fu : Nat} {x0 : Nat} {x1 : Nat} {x2 : Int32} {r : Int32 × LwP} (hl : l.stackTraces = false) (hap : apM X0.1 X0.2) (h : fL_isDrawing fu X0 x0 x1 x2 = some r) : Ctr D l yL_isDrawing cL_isDrawing 13 (some .boolean) rmL_isDrawing [vA (some x0), vA (some x1), vI x2] (lM X0) (.inr (some (vI r.1))) (lM r.2) :=
  ctr_of hl (by decide +kernel) (Nat.le_of_ble_eq_true rfl) fun ev _ ht B => cb_L_isDrawing_L0 B ht hap h
set_option maxRecDepth 100000 in
set_option maxHeartbeats 4000000 in
theorem cb_L_writes_L171 {D : DD} {ev : EV} {X0 : LwP} {fu : Nat} {X : LwP} {x0 : Nat} {x2 : Nat} {x5 : Int32} {s0 : Int32} {r : Int32 × LwP} (B : Amb D (foot (lM X0)) ev RL "writes" cL_writes 6 (some .boolean) rmL_writes) (ht : Tb0 ev) (hap : apM X.1 X.2)  (h : fL_writes_L171 fu X x0 x2 x5 s0 = some r) : Gd D (foot (lM X0)) ev (QF D ev (lM X0) (.inr (some (vI r.1))) (lM r.2) rmL_writes) (lM X) 45 291 171 [(0, vA (some x0)), (2, vA (some x2)), (5, vI x5)] [vI s0] := by
  unfold fL_writes_L171 at h
  refine g_istore (pc := 171) (L' := [(4, vI s0), (0, vA (some x0)), (2, vA (some x2)), (5, vI x5)]) B dL_writes_171 (by decide) rfl ?_
  refine g_iload (pc := 173) B dL_writes_173 0 rfl ?_
  refine g_if_eq (pc := 175) (tgt := 192) B dL_writes_175 (by decide) (fun c175 => ?_) (fun c175 => ?_)
  · rw [if_pos c175] at h
    refine g_iconst (pc := 192) B dL_writes_192 (0 : Int32) (by decide) ?_
    obtain rfl := Option.some.inj h
    exact g_ret_Z (pc := 193) B rfl (Or.inl rfl) (by decide) (by decide) dL_writes_193
  · rw [if_neg c175] at h
    refine g_aload_n (pc := 178) B dL_writes_178 1 rfl ?_
    refine g_aload_n (pc := 179) B dL_writes_179 2 rfl ?_
    refine g_iload (pc := 180) B dL_writes_180 3 rfl ?_
    obtain ⟨v182, X182, e182, h⟩ := obW h
    obtain ⟨hap182, h⟩ := apC_s h
    refine h_callS (pc := 182) (As := [vA (some x0), vA (some x2), vI x5]) (st := []) (X' := (lM X182)) (cs' := 45) (sl' := 291) (st10 := [vI v182]) B cal_L_isDrawing kmL_95 kz_L_isDrawing (fun l hl => ct_L_isDrawing (X0 := X) hl hap e182) rfl (Nat.le_of_ble_eq_true rfl) (by decide) (by decide) dL_writes_182 rfl rfl rfl rfl ?_
    refine g_if_eq (pc := 185) (tgt := 192) B dL_writes_185 (by decide) (fun c185 => ?_) (fun c185 => ?_)
    · rw [if_pos c185] at h
      refine g_iconst (pc := 192) B dL_writes_192 (0 : Int32) (by decide) ?_
      obtain rfl := Option.some.inj h
      exact g_ret_Z (pc := 193) B rfl (Or.inl rfl) (by decide) (by decide) dL_writes_193
    · rw [if_neg c185] at h
      refine g_iconst (pc := 188) B dL_writes_188 (1 : Int32) (by decide) ?_
      refine g_goto (pc := 189) (tgt := 193) B dL_writes_189 (by decide) ?_
      obtain rfl := Option.some.inj h
      exact g_ret_Z (pc := 193) B rfl (Or.inr rfl) (by decide) (by decide) dL_writes_193
set_option maxRecDepth 100000 in
set_option maxHeartbeats 4000000 in
theorem cb_L_writes_L170 {D : DD} {ev : EV} {X0 : LwP} {fu : Nat} {X : LwP} {x0 : Nat} {x2 : Nat} {x5 : Int32} {r : Int32 × LwP} (B : Amb D (foot (lM X0)) ev RL "writes" cL_writes 6 (some .boolean) rmL_writes) (ht : Tb0 ev) (hap : apM X.1 X.2)  (h : fL_writes_L170 fu X x0 x2 x5 = some r) : Gd D (foot (lM X0)) ev (QF D ev (lM X0) (.inr (some (vI r.1))) (lM r.2) rmL_writes) (lM X) 45 291 170 [(0, vA (some x0)), (2, vA (some x2)), (5, vI x5)] [] := by
  unfold fL_writes_L170 at h
  refine g_iconst (pc := 170) B dL_writes_170 (0 : Int32) (by decide) ?_
  refine g_sub (pc := 171) [0, 1, 2] rfl ?_
  exact cb_L_writes_L171 B ht hap h
set_option maxRecDepth 100000 in
set_option maxHeartbeats 4000000 in
theorem cb_L_writes_L56 {D : DD} {ev : EV} {X0 : LwP} {fu : Nat} {X : LwP} {x0 : Nat} {x1 : Nat} {x2 : Nat} {x3 : Int32} {x4 : Int32} {r : Int32 × LwP} (B : Amb D (foot (lM X0)) ev RL "writes" cL_writes 6 (some .boolean) rmL_writes) (ht : Tb0 ev) (hap : apM X.1 X.2)  (h : fL_writes_L56 fu X x0 x1 x2 x3 x4 = some r) : Gd D (foot (lM X0)) ev (QF D ev (lM X0) (.inr (some (vI r.1))) (lM r.2) rmL_writes) (lM X) 33 132 56 [(0, vA (some x0)), (1, vA (some x1)), (2, vA (some x2)), (3, vI x3), (4, vI x4)] [] := by
  unfold fL_writes_L56 at h
  refine g_aload_n (pc := 56) B dL_writes_56 1 rfl ?_
  refine g_iconst (pc := 57) B dL_writes_57 (1 : Int32) (by decide) ?_
  obtain ⟨c58, h⟩ := chk h
  refine gp_iald (pc := 58) (P := X) B hap c58 dL_writes_58 ?_
  refine g_if_le (pc := 59) (tgt := 99) B dL_writes_59 (by decide) (fun c59 => ?_) (fun c59 => ?_)
  · rw [if_pos c59] at h
    refine g_aload_n (pc := 99) B dL_writes_99 1 rfl ?_
    refine g_iconst (pc := 100) B dL_writes_100 (3 : Int32) (by decide) ?_
    obtain ⟨c101, h⟩ := chk h
    refine gp_iald (pc := 101) (P := X) B hap c101 dL_writes_101 ?_
    refine g_istore (pc := 102) (L' := [(5, vI (aI X.2 x1 (3 : Int32).toNatClampNeg)), (0, vA (some x0)), (1, vA (some x1)), (2, vA (some x2)), (3, vI x3), (4, vI x4)]) B dL_writes_102 (by decide) rfl ?_
    refine g_aload_n (pc := 104) B dL_writes_104 3 rfl ?_
    refine g_iload (pc := 105) B dL_writes_105 0 rfl ?_
    refine g_iload_n (pc := 107) B dL_writes_107 4 rfl ?_
    obtain ⟨c108, h⟩ := chk h
    refine gp_iast (pc := 108) (P := X) B hap c108 dL_writes_108 ?_
    refine g_aload_n (pc := 109) B dL_writes_109 3 rfl ?_
    refine g_bipush (pc := 110) B dL_writes_110 (10 : Int32) (by decide) ?_
    refine g_iload (pc := 112) B dL_writes_112 0 rfl ?_
    refine g_iadd (pc := 114) B dL_writes_114 ?_
    refine g_aload_n (pc := 115) B dL_writes_115 2 rfl ?_
    refine g_iconst (pc := 116) B dL_writes_116 (0 : Int32) (by decide) ?_
    obtain ⟨c117, h⟩ := chk h
    refine gp_iald (pc := 117) (P := (X.1, (sI X.2 x2 (aI X.2 x1 (3 : Int32).toNatClampNeg).toNatClampNeg x3))) B hap c117 dL_writes_117 ?_
    obtain ⟨c118, h⟩ := chk h
    refine gp_iast (pc := 118) (P := (X.1, (sI X.2 x2 (aI X.2 x1 (3 : Int32).toNatClampNeg).toNatClampNeg x3))) B hap c118 dL_writes_118 ?_
    refine g_aload_n (pc := 119) B dL_writes_119 2 rfl ?_
    refine g_iconst (pc := 120) B dL_writes_120 (0 : Int32) (by decide) ?_
    refine g_iconst (pc := 121) B dL_writes_121 (0 : Int32) (by decide) ?_
    obtain ⟨c122, h⟩ := chk h
    refine gp_iast (pc := 122) (P := (X.1, (sI (sI X.2 x2 (aI X.2 x1 (3 : Int32).toNatClampNeg).toNatClampNeg x3) x2 ((10 : Int32) + (aI X.2 x1 (3 : Int32).toNatClampNeg)).toNatClampNeg (aI (sI X.2 x2 (aI X.2 x1 (3 : Int32).toNatClampNeg).toNatClampNeg x3) x1 (0 : Int32).toNatClampNeg)))) B hap c122 dL_writes_122 ?_
    refine g_aload_n (pc := 123) B dL_writes_123 2 rfl ?_
    refine g_iconst (pc := 124) B dL_writes_124 (2 : Int32) (by decide) ?_
    refine g_iconst (pc := 125) B dL_writes_125 (0 : Int32) (by decide) ?_
    obtain ⟨c126, h⟩ := chk h
    refine gp_iast (pc := 126) (P := (X.1, (sI (sI (sI X.2 x2 (aI X.2 x1 (3 : Int32).toNatClampNeg).toNatClampNeg x3) x2 ((10 : Int32) + (aI X.2 x1 (3 : Int32).toNatClampNeg)).toNatClampNeg (aI (sI X.2 x2 (aI X.2 x1 (3 : Int32).toNatClampNeg).toNatClampNeg x3) x1 (0 : Int32).toNatClampNeg)) x1 (0 : Int32).toNatClampNeg (0 : Int32)))) B hap c126 dL_writes_126 ?_
    refine g_aload_n (pc := 127) B dL_writes_127 2 rfl ?_
    refine g_iconst (pc := 128) B dL_writes_128 (3 : Int32) (by decide) ?_
    refine g_dup2 (pc := 129) B dL_writes_129 rfl rfl ?_
    obtain ⟨c130, h⟩ := chk h
    refine gp_iald (pc := 130) (P := (X.1, (sI (sI (sI (sI X.2 x2 (aI X.2 x1 (3 : Int32).toNatClampNeg).toNatClampNeg x3) x2 ((10 : Int32) + (aI X.2 x1 (3 : Int32).toNatClampNeg)).toNatClampNeg (aI (sI X.2 x2 (aI X.2 x1 (3 : Int32).toNatClampNeg).toNatClampNeg x3) x1 (0 : Int32).toNatClampNeg)) x1 (0 : Int32).toNatClampNeg (0 : Int32)) x1 (2 : Int32).toNatClampNeg (0 : Int32)))) B hap c130 dL_writes_130 ?_
    refine g_iconst (pc := 131) B dL_writes_131 (1 : Int32) (by decide) ?_
    refine g_iadd (pc := 132) B dL_writes_132 ?_
    obtain ⟨c133, h⟩ := chk h
    refine gp_iast (pc := 133) (P := (X.1, (sI (sI (sI (sI X.2 x2 (aI X.2 x1 (3 : Int32).toNatClampNeg).toNatClampNeg x3) x2 ((10 : Int32) + (aI X.2 x1 (3 : Int32).toNatClampNeg)).toNatClampNeg (aI (sI X.2 x2 (aI X.2 x1 (3 : Int32).toNatClampNeg).toNatClampNeg x3) x1 (0 : Int32).toNatClampNeg)) x1 (0 : Int32).toNatClampNeg (0 : Int32)) x1 (2 : Int32).toNatClampNeg (0 : Int32)))) B hap c133 dL_writes_133 ?_
    refine g_iload (pc := 134) B dL_writes_134 5 rfl ?_
    refine g_if_eq (pc := 136) (tgt := 170) B dL_writes_136 (by decide) (fun c136 => ?_) (fun c136 => ?_)
    · rw [if_pos c136] at h
      refine g_sub (pc := 170) [1, 3, 0] rfl ?_
      refine g_widen (cs' := 45) (sl' := 291) (by decide) (by decide) ?_
      exact cb_L_writes_L170 B ht hap h
    · rw [if_neg c136] at h
      refine g_aload_n (pc := 139) B dL_writes_139 1 rfl ?_
      refine g_iload_n (pc := 140) B dL_writes_140 4 rfl ?_
      obtain ⟨k141_1, h⟩ := chk h
      obtain ⟨v141, X141, e141, h⟩ := nTW_s h
      obtain ⟨P141, eP141, h⟩ := ob h
      obtain ⟨hap141, h⟩ := apC_s h
      refine p_callVW (pc := 141) (P := (X.1, (sI (sI (sI (sI (sI X.2 x2 (aI X.2 x1 (3 : Int32).toNatClampNeg).toNatClampNeg x3) x2 ((10 : Int32) + (aI X.2 x1 (3 : Int32).toNatClampNeg)).toNatClampNeg (aI (sI X.2 x2 (aI X.2 x1 (3 : Int32).toNatClampNeg).toNatClampNeg x3) x1 (0 : Int32).toNatClampNeg)) x1 (0 : Int32).toNatClampNeg (0 : Int32)) x1 (2 : Int32).toNatClampNeg (0 : Int32)) x1 (3 : Int32).toNatClampNeg ((aI (sI (sI (sI (sI X.2 x2 (aI X.2 x1 (3 : Int32).toNatClampNeg).toNatClampNeg x3) x2 ((10 : Int32) + (aI X.2 x1 (3 : Int32).toNatClampNeg)).toNatClampNeg (aI (sI X.2 x2 (aI X.2 x1 (3 : Int32).toNatClampNeg).toNatClampNeg x3) x1 (0 : Int32).toNatClampNeg)) x1 (0 : Int32).toNatClampNeg (0 : Int32)) x1 (2 : Int32).toNatClampNeg (0 : Int32)) x1 (3 : Int32).toNatClampNeg) + (1 : Int32))))) (As := [vI x3]) (st := []) (st10 := [vI v141]) (cs' := 45) (sl' := 291) B cal_X11_write kmL_92 kn_X11_write ks_X11_write hap k141_1 rfl (fun l hl => ct_X11_write hl e141) eP141 rfl (Nat.le_of_ble_eq_true rfl) (by decide) (by decide) dL_writes_141 rfl rfl rfl rfl ?_
      refine g_iload (pc := 144) B dL_writes_144 0 rfl ?_
      refine g_icmp_ne (pc := 146) (tgt := 170) B dL_writes_146 (by decide) (fun c146 => ?_) (fun c146 => ?_)
      · rw [if_neg c146] at h
        refine g_sub (pc := 170) [1, 3, 0] rfl ?_
        exact cb_L_writes_L170 B ht hap141 h
      · rw [if_pos c146] at h
        refine g_aload_n (pc := 149) B dL_writes_149 1 rfl ?_
        obtain ⟨k150_2, h⟩ := chk h
        obtain ⟨v150, e150, h⟩ := ob h
        refine p_callV (pc := 150) (P := P141) (As := []) (st := []) (st10 := [vI v150]) (cs' := 45) (sl' := 291) B cal_X11_drafted kmL_52 kn_X11_drafted ks_X11_drafted hap141 k150_2 rfl (fun l hl => ct_X11_drafted hl e150) rfl (Nat.le_of_ble_eq_true rfl) (by decide) (by decide) dL_writes_150 rfl rfl rfl rfl ?_
        refine g_if_ne (pc := 153) (tgt := 170) B dL_writes_153 (by decide) (fun c153 => ?_) (fun c153 => ?_)
        · rw [if_neg c153] at h
          refine g_sub (pc := 170) [1, 3, 0] rfl ?_
          exact cb_L_writes_L170 B ht hap141 h
        · rw [if_pos c153] at h
          refine g_aload_n (pc := 156) B dL_writes_156 1 rfl ?_
          obtain ⟨v157, e157, h⟩ := ob h
          refine p_callV (pc := 157) (P := P141) (As := []) (st := []) (st10 := [vI v157]) (cs' := 45) (sl' := 291) B cal_X11_programs kmL_20 kn_X11_programs ks_X11_programs hap141 k150_2 rfl (fun l hl => ct_X11_programs hl e157) rfl (Nat.le_of_ble_eq_true rfl) (by decide) (by decide) dL_writes_157 rfl rfl rfl rfl ?_
          refine g_aload_n (pc := 160) B dL_writes_160 2 rfl ?_
          refine g_iconst (pc := 161) B dL_writes_161 (3 : Int32) (by decide) ?_
          obtain ⟨c162, h⟩ := chk h
          refine gp_iald (pc := 162) (P := P141) B hap141 c162 dL_writes_162 ?_
          refine g_icmp_ne (pc := 163) (tgt := 170) B dL_writes_163 (by decide) (fun c163 => ?_) (fun c163 => ?_)
          · rw [if_neg c163] at h
            refine g_sub (pc := 170) [1, 3, 0] rfl ?_
            exact cb_L_writes_L170 B ht hap141 h
          · rw [if_pos c163] at h
            refine g_iconst (pc := 166) B dL_writes_166 (1 : Int32) (by decide) ?_
            refine g_goto (pc := 167) (tgt := 171) B dL_writes_167 (by decide) ?_
            refine g_sub (pc := 171) [1, 3, 0] rfl ?_
            exact cb_L_writes_L171 B ht hap141 h
  · rw [if_neg c59] at h
    refine g_aload_n (pc := 62) B dL_writes_62 1 rfl ?_
    refine g_iconst (pc := 63) B dL_writes_63 (0 : Int32) (by decide) ?_
    obtain ⟨c64, h⟩ := chk h
    refine gp_iald (pc := 64) (P := X) B hap c64 dL_writes_64 ?_
    refine g_istore (pc := 65) (L' := [(5, vI (aI X.2 x1 (0 : Int32).toNatClampNeg)), (0, vA (some x0)), (1, vA (some x1)), (2, vA (some x2)), (3, vI x3), (4, vI x4)]) B dL_writes_65 (by decide) rfl ?_
    refine g_aload_n (pc := 67) B dL_writes_67 2 rfl ?_
    refine g_iconst (pc := 68) B dL_writes_68 (0 : Int32) (by decide) ?_
    refine g_iconst (pc := 69) B dL_writes_69 (0 : Int32) (by decide) ?_
    obtain ⟨c70, h⟩ := chk h
    refine gp_iast (pc := 70) (P := X) B hap c70 dL_writes_70 ?_
    refine g_aload_n (pc := 71) B dL_writes_71 2 rfl ?_
    refine g_iconst (pc := 72) B dL_writes_72 (1 : Int32) (by decide) ?_
    refine g_iconst (pc := 73) B dL_writes_73 (0 : Int32) (by decide) ?_
    obtain ⟨c74, h⟩ := chk h
    refine gp_iast (pc := 74) (P := (X.1, (sI X.2 x1 (0 : Int32).toNatClampNeg (0 : Int32)))) B hap c74 dL_writes_74 ?_
    refine g_aload_n (pc := 75) B dL_writes_75 2 rfl ?_
    refine g_iconst (pc := 76) B dL_writes_76 (2 : Int32) (by decide) ?_
    refine g_iconst (pc := 77) B dL_writes_77 (0 : Int32) (by decide) ?_
    obtain ⟨c78, h⟩ := chk h
    refine gp_iast (pc := 78) (P := (X.1, (sI (sI X.2 x1 (0 : Int32).toNatClampNeg (0 : Int32)) x1 (1 : Int32).toNatClampNeg (0 : Int32)))) B hap c78 dL_writes_78 ?_
    refine g_iload (pc := 79) B dL_writes_79 5 rfl ?_
    refine g_if_eq (pc := 81) (tgt := 97) B dL_writes_81 (by decide) (fun c81 => ?_) (fun c81 => ?_)
    · rw [if_pos c81] at h
      refine g_iconst (pc := 97) B dL_writes_97 (0 : Int32) (by decide) ?_
      obtain rfl := Option.some.inj h
      exact g_ret_Z (pc := 98) B rfl (Or.inl rfl) (by decide) (by decide) dL_writes_98
    · rw [if_neg c81] at h
      refine g_aload_n (pc := 84) B dL_writes_84 1 rfl ?_
      obtain ⟨k85_3, h⟩ := chk h
      obtain ⟨v85, X85, e85, h⟩ := obW h
      obtain ⟨P85, eP85, h⟩ := ob h
      obtain ⟨hap85, h⟩ := apC_s h
      refine p_callVW (pc := 85) (P := (X.1, (sI (sI (sI X.2 x1 (0 : Int32).toNatClampNeg (0 : Int32)) x1 (1 : Int32).toNatClampNeg (0 : Int32)) x1 (2 : Int32).toNatClampNeg (0 : Int32)))) (As := []) (st := []) (st10 := [vI v85]) (cs' := 33) (sl' := 132) B cal_X11_wipe kmL_55 kn_X11_wipe ks_X11_wipe hap k85_3 rfl (fun l hl => ct_X11_wipe hl e85) eP85 rfl (Nat.le_of_ble_eq_true rfl) (by decide) (by decide) dL_writes_85 rfl rfl rfl rfl ?_
      refine g_iload (pc := 88) B dL_writes_88 0 rfl ?_
      refine g_icmp_ne (pc := 90) (tgt := 97) B dL_writes_90 (by decide) (fun c90 => ?_) (fun c90 => ?_)
      · rw [if_neg c90] at h
        refine g_iconst (pc := 97) B dL_writes_97 (0 : Int32) (by decide) ?_
        obtain rfl := Option.some.inj h
        exact g_ret_Z (pc := 98) B rfl (Or.inl rfl) (by decide) (by decide) dL_writes_98
      · rw [if_pos c90] at h
        refine g_iconst (pc := 93) B dL_writes_93 (1 : Int32) (by decide) ?_
        refine g_goto (pc := 94) (tgt := 98) B dL_writes_94 (by decide) ?_
        obtain rfl := Option.some.inj h
        exact g_ret_Z (pc := 98) B rfl (Or.inr rfl) (by decide) (by decide) dL_writes_98
set_option maxRecDepth 100000 in
set_option maxHeartbeats 4000000 in
theorem cb_L_writes_L51 {D : DD} {ev : EV} {cs sl : Nat} {X0 : LwP} {fu : Nat} {rec3 : LwP → Nat → Nat → Nat → Int32 → Int32 → Option (Int32 × LwP)} {X : LwP} {x0 : Nat} {x1 : Nat} {x2 : Nat} {x3 : Int32} {s0 : Int32} {r : Int32 × LwP} (B : Amb D (foot (lM X0)) ev RL "writes" cL_writes 6 (some .boolean) rmL_writes) (ht : Tb0 ev) (hap : apM X.1 X.2) (hcs : cs ≤ 33 ∧ sl ≤ 132) (hrec3 : ∀ {X : LwP} {x0 : Nat} {x1 : Nat} {x2 : Nat} {x3 : Int32} {x4 : Int32} {r : Int32 × LwP}, apM X.1 X.2 → rec3 X x0 x1 x2 x3 x4 = some r → Gd D (foot (lM X0)) ev (QF D ev (lM X0) (.inr (some (vI r.1))) (lM r.2) rmL_writes) (lM X) (cs + 1) (sl + 4) 3 [(0, vA (some x0)), (1, vA (some x1)), (2, vA (some x2)), (3, vI x3), (4, vI x4)] []) (h : fL_writes_L51 fu rec3 X x0 x1 x2 x3 s0 = some r) : Gd D (foot (lM X0)) ev (QF D ev (lM X0) (.inr (some (vI r.1))) (lM r.2) rmL_writes) (lM X) (cs + 1) (sl + 4) 51 [(0, vA (some x0)), (1, vA (some x1)), (2, vA (some x2)), (3, vI x3)] [vI s0] := by
  unfold fL_writes_L51 at h
  refine g_istore (pc := 51) (L' := [(4, vI s0), (0, vA (some x0)), (1, vA (some x1)), (2, vA (some x2)), (3, vI x3)]) B dL_writes_51 (by decide) rfl ?_
  refine g_goto (pc := 53) (tgt := 3) B dL_writes_53 (by decide) ?_
  refine g_sub (pc := 3) [1, 2, 3, 4, 0] rfl ?_
  exact hrec3 hap h
set_option maxRecDepth 100000 in
set_option maxHeartbeats 4000000 in
theorem cb_L_writes_L50 {D : DD} {ev : EV} {cs sl : Nat} {X0 : LwP} {fu : Nat} {rec3 : LwP → Nat → Nat → Nat → Int32 → Int32 → Option (Int32 × LwP)} {X : LwP} {x0 : Nat} {x1 : Nat} {x2 : Nat} {x3 : Int32} {r : Int32 × LwP} (B : Amb D (foot (lM X0)) ev RL "writes" cL_writes 6 (some .boolean) rmL_writes) (ht : Tb0 ev) (hap : apM X.1 X.2) (hcs : cs ≤ 33 ∧ sl ≤ 132) (hrec3 : ∀ {X : LwP} {x0 : Nat} {x1 : Nat} {x2 : Nat} {x3 : Int32} {x4 : Int32} {r : Int32 × LwP}, apM X.1 X.2 → rec3 X x0 x1 x2 x3 x4 = some r → Gd D (foot (lM X0)) ev (QF D ev (lM X0) (.inr (some (vI r.1))) (lM r.2) rmL_writes) (lM X) (cs + 1) (sl + 4) 3 [(0, vA (some x0)), (1, vA (some x1)), (2, vA (some x2)), (3, vI x3), (4, vI x4)] []) (h : fL_writes_L50 fu rec3 X x0 x1 x2 x3 = some r) : Gd D (foot (lM X0)) ev (QF D ev (lM X0) (.inr (some (vI r.1))) (lM r.2) rmL_writes) (lM X) (cs + 1) (sl + 4) 50 [(0, vA (some x0)), (1, vA (some x1)), (2, vA (some x2)), (3, vI x3)] [] := by
  unfold fL_writes_L50 at h
  refine g_iconst (pc := 50) B dL_writes_50 (0 : Int32) (by decide) ?_
  refine g_sub (pc := 51) [0, 1, 2, 3] rfl ?_
  exact cb_L_writes_L51 B ht hap hcs hrec3 h
set_option maxRecDepth 100000 in
set_option maxHeartbeats 4000000 in
theorem cb_L_writes_L3b {D : DD} {ev : EV} {cs sl : Nat} {X0 : LwP} {fu : Nat} {rec3 : LwP → Nat → Nat → Nat → Int32 → Int32 → Option (Int32 × LwP)} {X : LwP} {x0 : Nat} {x1 : Nat} {x2 : Nat} {x3 : Int32} {x4 : Int32} {r : Int32 × LwP} (B : Amb D (foot (lM X0)) ev RL "writes" cL_writes 6 (some .boolean) rmL_writes) (ht : Tb0 ev) (hap : apM X.1 X.2) (hcs : cs ≤ 33 ∧ sl ≤ 132) (hrec3 : ∀ {X : LwP} {x0 : Nat} {x1 : Nat} {x2 : Nat} {x3 : Int32} {x4 : Int32} {r : Int32 × LwP}, apM X.1 X.2 → rec3 X x0 x1 x2 x3 x4 = some r → Gd D (foot (lM X0)) ev (QF D ev (lM X0) (.inr (some (vI r.1))) (lM r.2) rmL_writes) (lM X) (cs + 1) (sl + 4) 3 [(0, vA (some x0)), (1, vA (some x1)), (2, vA (some x2)), (3, vI x3), (4, vI x4)] []) (h : fL_writes_L3b fu rec3 X x0 x1 x2 x3 x4 = some r) : Gd D (foot (lM X0)) ev (QF D ev (lM X0) (.inr (some (vI r.1))) (lM r.2) rmL_writes) (lM X) (cs) (sl) 3 [(0, vA (some x0)), (1, vA (some x1)), (2, vA (some x2)), (3, vI x3), (4, vI x4)] [] := by
  unfold fL_writes_L3b at h
  refine g_aload_n (pc := 3) B dL_writes_3 1 rfl ?_
  refine g_iconst (pc := 4) B dL_writes_4 (1 : Int32) (by decide) ?_
  obtain ⟨c5, h⟩ := chk h
  refine gp_iald (pc := 5) (P := X) B hap c5 dL_writes_5 ?_
  refine g_if_le (pc := 6) (tgt := 56) B dL_writes_6 (by decide) (fun c6 => ?_) (fun c6 => ?_)
  · rw [if_pos c6] at h
    refine g_sub (pc := 56) [0, 1, 2, 3, 4] rfl ?_
    refine g_widen (cs' := 33) (sl' := 132) (by omega) (by omega) ?_
    exact cb_L_writes_L56 B ht hap h
  · rw [if_neg c6] at h
    refine g_aload_n (pc := 9) B dL_writes_9 1 rfl ?_
    refine g_iconst (pc := 10) B dL_writes_10 (0 : Int32) (by decide) ?_
    obtain ⟨c11, h⟩ := chk h
    refine gp_iald (pc := 11) (P := X) B hap c11 dL_writes_11 ?_
    refine g_bipush (pc := 12) B dL_writes_12 (30 : Int32) (by decide) ?_
    refine g_icmp_ge (pc := 14) (tgt := 56) B dL_writes_14 (by decide) (fun c14 => ?_) (fun c14 => ?_)
    · rw [if_pos c14] at h
      refine g_sub (pc := 56) [0, 1, 2, 3, 4] rfl ?_
      refine g_widen (cs' := 33) (sl' := 132) (by omega) (by omega) ?_
      exact cb_L_writes_L56 B ht hap h
    · rw [if_neg c14] at h
      refine g_aload_n (pc := 17) B dL_writes_17 1 rfl ?_
      refine g_iconst (pc := 18) B dL_writes_18 (0 : Int32) (by decide) ?_
      refine g_dup2 (pc := 19) B dL_writes_19 rfl rfl ?_
      obtain ⟨c20, h⟩ := chk h
      refine gp_iald (pc := 20) (P := X) B hap c20 dL_writes_20 ?_
      refine g_iconst (pc := 21) B dL_writes_21 (1 : Int32) (by decide) ?_
      refine g_iadd (pc := 22) B dL_writes_22 ?_
      obtain ⟨c23, h⟩ := chk h
      refine gp_iast (pc := 23) (P := X) B hap c23 dL_writes_23 ?_
      refine g_aload_n (pc := 24) B dL_writes_24 1 rfl ?_
      refine g_iconst (pc := 25) B dL_writes_25 (1 : Int32) (by decide) ?_
      refine g_dup2 (pc := 26) B dL_writes_26 rfl rfl ?_
      obtain ⟨c27, h⟩ := chk h
      refine gp_iald (pc := 27) (P := (X.1, (sI X.2 x1 (0 : Int32).toNatClampNeg ((aI X.2 x1 (0 : Int32).toNatClampNeg) + (1 : Int32))))) B hap c27 dL_writes_27 ?_
      refine g_iconst (pc := 28) B dL_writes_28 (1 : Int32) (by decide) ?_
      refine g_isub (pc := 29) B dL_writes_29 ?_
      obtain ⟨c30, h⟩ := chk h
      refine gp_iast (pc := 30) (P := (X.1, (sI X.2 x1 (0 : Int32).toNatClampNeg ((aI X.2 x1 (0 : Int32).toNatClampNeg) + (1 : Int32))))) B hap c30 dL_writes_30 ?_
      refine g_iload (pc := 31) B dL_writes_31 4 rfl ?_
      refine g_if_eq (pc := 33) (tgt := 50) B dL_writes_33 (by decide) (fun c33 => ?_) (fun c33 => ?_)
      · rw [if_pos c33] at h
        refine g_sub (pc := 50) [0, 1, 2, 3] rfl ?_
        refine g_widen (cs' := cs + 1) (sl' := sl + 4) (by omega) (by omega) ?_
        exact cb_L_writes_L50 B ht hap hcs hrec3 h
      · rw [if_neg c33] at h
        refine g_aload_n (pc := 36) B dL_writes_36 0 rfl ?_
        obtain ⟨k37_1, h⟩ := chk h
        obtain ⟨v37, X37, e37, h⟩ := nTW_s h
        obtain ⟨P37, eP37, h⟩ := ob h
        obtain ⟨hap37, h⟩ := apC_s h
        refine p_callVW (pc := 37) (P := (X.1, (sI (sI X.2 x1 (0 : Int32).toNatClampNeg ((aI X.2 x1 (0 : Int32).toNatClampNeg) + (1 : Int32))) x1 (1 : Int32).toNatClampNeg ((aI (sI X.2 x1 (0 : Int32).toNatClampNeg ((aI X.2 x1 (0 : Int32).toNatClampNeg) + (1 : Int32))) x1 (1 : Int32).toNatClampNeg) - (1 : Int32))))) (As := []) (st := []) (st10 := [vI v37]) (cs' := cs + 1) (sl' := sl + 4) B cal_X11_end kmL_83 kn_X11_end ks_X11_end hap k37_1 rfl (fun l hl => ct_X11_end hl e37) eP37 rfl (Nat.le_of_ble_eq_true rfl) (by decide) ⟨by show cs + 1 ≤ 47; omega, by show sl + 4 ≤ 299; omega⟩ dL_writes_37 rfl rfl rfl rfl ?_
        refine g_aload_n (pc := 40) B dL_writes_40 1 rfl ?_
        refine g_iconst (pc := 41) B dL_writes_41 (1 : Int32) (by decide) ?_
        obtain ⟨c42, h⟩ := chk h
        refine gp_iald (pc := 42) (P := P37) B hap37 c42 dL_writes_42 ?_
        refine g_icmp_ne (pc := 43) (tgt := 50) B dL_writes_43 (by decide) (fun c43 => ?_) (fun c43 => ?_)
        · rw [if_neg c43] at h
          refine g_sub (pc := 50) [0, 1, 2, 3] rfl ?_
          exact cb_L_writes_L50 B ht hap37 hcs hrec3 h
        · rw [if_pos c43] at h
          refine g_iconst (pc := 46) B dL_writes_46 (1 : Int32) (by decide) ?_
          refine g_goto (pc := 47) (tgt := 51) B dL_writes_47 (by decide) ?_
          refine g_sub (pc := 51) [0, 1, 2, 3] rfl ?_
          exact cb_L_writes_L51 B ht hap37 hcs hrec3 h
theorem cb_L_writes_L3n {D : DD} {ev : EV} {X0 : LwP} {fu : Nat} (B : Amb D (foot (lM X0)) ev RL "writes" cL_writes 6 (some .boolean) rmL_writes) (ht : Tb0 ev) : ∀ (n : Nat) {cs sl : Nat} {X : LwP} {x0 : Nat} {x1 : Nat} {x2 : Nat} {x3 : Int32} {x4 : Int32} {r : Int32 × LwP}, cs + n * 1 ≤ 33 ∧ sl + n * 4 ≤ 132 → apM X.1 X.2 → fL_writes_L3 fu n X x0 x1 x2 x3 x4 = some r → Gd D (foot (lM X0)) ev (QF D ev (lM X0) (.inr (some (vI r.1))) (lM r.2) rmL_writes) (lM X) (cs) (sl) 3 [(0, vA (some x0)), (1, vA (some x1)), (2, vA (some x2)), (3, vI x3), (4, vI x4)] [] := by
  intro n
  induction n with
  | zero => intro cs sl X x0 x1 x2 x3 x4 r hn hap h; exact nomatch h
  | succ n ih => intro cs sl X x0 x1 x2 x3 x4 r hn hap h; exact cb_L_writes_L3b (fu := fu) B ht hap ⟨by omega, by omega⟩ (fun hap9 h9 => ih ⟨by omega, by omega⟩ hap9 h9) h
theorem cb_L_writes_L3 {D : DD} {ev : EV} {X0 : LwP} {fu : Nat} {X : LwP} {x0 : Nat} {x1 : Nat} {x2 : Nat} {x3 : Int32} {x4 : Int32} {cs sl : Nat} {n : Nat} {r : Int32 × LwP} (B : Amb D (foot (lM X0)) ev RL "writes" cL_writes 6 (some .boolean) rmL_writes) (ht : Tb0 ev) (hap : apM X.1 X.2) (hn : cs + n * 1 ≤ 33 ∧ sl + n * 4 ≤ 132) (h : fL_writes_L3 fu n X x0 x1 x2 x3 x4 = some r) : Gd D (foot (lM X0)) ev (QF D ev (lM X0) (.inr (some (vI r.1))) (lM r.2) rmL_writes) (lM X) (cs) (sl) 3 [(0, vA (some x0)), (1, vA (some x1)), (2, vA (some x2)), (3, vI x3), (4, vI x4)] [] := cb_L_writes_L3n B ht n hn hap h
set_option maxRecDepth 100000 in
set_option maxHeartbeats 4000000 in
theorem cb_L_writes_L0 {D : DD} {ev : EV} {X0 : LwP} {fu : Nat} {X : LwP} {x0 : Nat} {x1 : Nat} {x2 : Nat} {x3 : Int32} {r : Int32 × LwP} (B : Amb D (foot (lM X0)) ev RL "writes" cL_writes 6 (some .boolean) rmL_writes) (ht : Tb0 ev) (hap : apM X.1 X.2)  (h : fL_writes fu X x0 x1 x2 x3 = some r) : Gd D (foot (lM X0)) ev (QF D ev (lM X0) (.inr (some (vI r.1))) (lM r.2) rmL_writes) (lM X) 0 0 0 [(0, vA (some x0)), (1, vA (some x1)), (2, vA (some x2)), (3, vI x3)] [] := by
  unfold fL_writes at h
  refine g_iconst (pc := 0) B dL_writes_0 (1 : Int32) (by decide) ?_
  refine g_istore (pc := 1) (L' := [(4, vI (1 : Int32)), (0, vA (some x0)), (1, vA (some x1)), (2, vA (some x2)), (3, vI x3)]) B dL_writes_1 (by decide) rfl ?_
  refine g_sub (pc := 3) [1, 2, 3, 4, 0] rfl ?_
  exact cb_L_writes_L3 B ht hap (by decide) h
theorem ct_L_writes {D : DD} {l : Launch} {X0 : LwP} {fu : Nat} {x0 : Nat} {x1 : Nat} {x2 : Nat} {x3 : Int32} {r : Int32 × LwP} (hl : l.stackTraces = false) (hap : apM X0.1 X0.2) (h : fL_writes fu X0 x0 x1 x2 x3 = some r) : Ctr D l yL_writes cL_writes 6 (some .boolean) rmL_writes [vA (some x0), vA (some x1), vA (some x2), vI x3] (lM X0) (.inr (some (vI r.1))) (lM r.2) :=
  ctr_of hl (by decide +kernel) (Nat.le_of_ble_eq_true rfl) fun ev _ ht B => cb_L_writes_L0 B ht hap h
set_option maxRecDepth 100000 in
set_option maxHeartbeats 4000000 in
theorem cb_L_meets_L0 {D : DD} {ev : EV} {X0 : LwP} {fu : Nat} {x0 : Nat} {x1 : Nat} {x2 : Nat} {x3 : Nat} {x4 : Int32} {r : Int32} (B : Amb D (foot (lM X0)) ev RL "meets" cL_meets 7 (some .boolean) rmL_meets) (ht : Tb0 ev) (hap : apM X0.1 X0.2)  (h : fL_meets fu X0 x0 x1 x2 x3 x4 = some r) : Gd D (foot (lM X0)) ev (QF D ev (lM X0) (.inr (some (vI r))) (lM X0) rmL_meets) (lM X0) 0 0 0 [(0, vA (some x0)), (1, vA (some x1)), (2, vA (some x2)), (3, vA (some x3)), (4, vI x4)] [] := by
  unfold fL_meets at h
  refine g_aload_n (pc := 0) B dL_meets_0 3 rfl ?_
  refine g_bipush (pc := 1) B dL_meets_1 (12 : Int32) (by decide) ?_
  refine g_iload (pc := 3) B dL_meets_3 4 rfl ?_
  refine g_iadd (pc := 5) B dL_meets_5 ?_
  obtain ⟨c6, h⟩ := chk h
  refine gp_iald (pc := 6) (P := X0) B hap c6 dL_meets_6 ?_
  refine g_istore (pc := 7) (L' := [(5, vI (aI X0.2 x3 ((12 : Int32) + x4).toNatClampNeg)), (0, vA (some x0)), (1, vA (some x1)), (2, vA (some x2)), (3, vA (some x3)), (4, vI x4)]) B dL_meets_7 (by decide) rfl ?_
  refine g_aload_n (pc := 9) B dL_meets_9 4 rfl ?_
  refine g_bipush (pc := 10) B dL_meets_10 (22 : Int32) (by decide) ?_
  refine g_iload (pc := 12) B dL_meets_12 5 rfl ?_
  refine g_iadd (pc := 14) B dL_meets_14 ?_
  obtain ⟨c15, h⟩ := chk h
  refine gp_iald (pc := 15) (P := X0) B hap c15 dL_meets_15 ?_
  refine g_istore (pc := 16) (L' := [(6, vI (aI X0.2 x3 ((22 : Int32) + x4).toNatClampNeg)), (5, vI (aI X0.2 x3 ((12 : Int32) + x4).toNatClampNeg)), (0, vA (some x0)), (1, vA (some x1)), (2, vA (some x2)), (3, vA (some x3)), (4, vI x4)]) B dL_meets_16 (by decide) rfl ?_
  refine g_aload_n (pc := 18) B dL_meets_18 2 rfl ?_
  refine g_iload (pc := 19) B dL_meets_19 1 rfl ?_
  obtain ⟨k21_1, h⟩ := chk h
  obtain ⟨v21, e21, h⟩ := nT_s h
  refine p_callV (pc := 21) (P := X0) (As := [vI (aI X0.2 x3 ((12 : Int32) + x4).toNatClampNeg)]) (st := []) (st10 := [vI v21]) (cs' := 0) (sl' := 0) B cal_X11_fault kmL_109 kn_X11_fault ks_X11_fault hap k21_1 rfl (fun l hl => ct_X11_fault hl e21) rfl (Nat.le_of_ble_eq_true rfl) (by decide) (by decide) dL_meets_21 rfl rfl rfl rfl ?_
  refine g_if_ne (pc := 24) (tgt := 76) B dL_meets_24 (by decide) (fun c24 => ?_) (fun c24 => ?_)
  · rw [if_neg c24] at h
    refine g_iconst (pc := 76) B dL_meets_76 (0 : Int32) (by decide) ?_
    obtain rfl := Option.some.inj h
    exact g_ret_Z (pc := 77) B rfl (Or.inl rfl) (by decide) (by decide) dL_meets_77
  · rw [if_pos c24] at h
    refine g_aload_n (pc := 27) B dL_meets_27 2 rfl ?_
    refine g_iload (pc := 28) B dL_meets_28 1 rfl ?_
    obtain ⟨v30, e30, h⟩ := nT_s h
    refine p_callV (pc := 30) (P := X0) (As := [vI (aI X0.2 x3 ((12 : Int32) + x4).toNatClampNeg)]) (st := []) (st10 := [vI v30]) (cs' := 0) (sl' := 0) B cal_X11_steps kmL_103 kn_X11_steps ks_X11_steps hap k21_1 rfl (fun l hl => ct_X11_steps hl e30) rfl (Nat.le_of_ble_eq_true rfl) (by decide) (by decide) dL_meets_30 rfl rfl rfl rfl ?_
    refine g_aload_n (pc := 33) B dL_meets_33 5 rfl ?_
    refine g_bipush (pc := 34) B dL_meets_34 (8 : Int32) (by decide) ?_
    refine g_iload (pc := 36) B dL_meets_36 0 rfl ?_
    refine g_iadd (pc := 38) B dL_meets_38 ?_
    obtain ⟨c39, h⟩ := chk h
    refine gp_iald (pc := 39) (P := X0) B hap c39 dL_meets_39 ?_
    refine g_icmp_gt (pc := 40) (tgt := 76) B dL_meets_40 (by decide) (fun c40 => ?_) (fun c40 => ?_)
    · rw [if_pos c40] at h
      refine g_iconst (pc := 76) B dL_meets_76 (0 : Int32) (by decide) ?_
      obtain rfl := Option.some.inj h
      exact g_ret_Z (pc := 77) B rfl (Or.inl rfl) (by decide) (by decide) dL_meets_77
    · rw [if_neg c40] at h
      refine g_aload_n (pc := 43) B dL_meets_43 4 rfl ?_
      refine g_bipush (pc := 44) B dL_meets_44 (10 : Int32) (by decide) ?_
      refine g_iload (pc := 46) B dL_meets_46 1 rfl ?_
      refine g_iadd (pc := 48) B dL_meets_48 ?_
      obtain ⟨c49, h⟩ := chk h
      refine gp_iald (pc := 49) (P := X0) B hap c49 dL_meets_49 ?_
      refine g_aload_n (pc := 50) B dL_meets_50 5 rfl ?_
      refine g_iconst (pc := 51) B dL_meets_51 (4 : Int32) (by decide) ?_
      refine g_iload (pc := 52) B dL_meets_52 0 rfl ?_
      refine g_iadd (pc := 54) B dL_meets_54 ?_
      obtain ⟨c55, h⟩ := chk h
      refine gp_iald (pc := 55) (P := X0) B hap c55 dL_meets_55 ?_
      refine g_icmp_gt (pc := 56) (tgt := 76) B dL_meets_56 (by decide) (fun c56 => ?_) (fun c56 => ?_)
      · rw [if_pos c56] at h
        refine g_iconst (pc := 76) B dL_meets_76 (0 : Int32) (by decide) ?_
        obtain rfl := Option.some.inj h
        exact g_ret_Z (pc := 77) B rfl (Or.inl rfl) (by decide) (by decide) dL_meets_77
      · rw [if_neg c56] at h
        refine g_aload_n (pc := 59) B dL_meets_59 2 rfl ?_
        refine g_iload (pc := 60) B dL_meets_60 1 rfl ?_
        refine g_aload_n (pc := 62) B dL_meets_62 5 rfl ?_
        refine g_iload (pc := 63) B dL_meets_63 0 rfl ?_
        obtain ⟨c65, h⟩ := chk h
        refine gp_iald (pc := 65) (P := X0) B hap c65 dL_meets_65 ?_
        obtain ⟨v66, e66, h⟩ := nT_s h
        refine p_callV (pc := 66) (P := X0) (As := [vI (aI X0.2 x3 ((12 : Int32) + x4).toNatClampNeg), vI (aI X0.2 x3 (aI X0.2 x3 ((22 : Int32) + x4).toNatClampNeg).toNatClampNeg)]) (st := []) (st10 := [vI v66]) (cs' := 0) (sl' := 0) B cal_X11_areAlike kmL_122 kn_X11_areAlike ks_X11_areAlike hap k21_1 rfl (fun l hl => ct_X11_areAlike hl e66) rfl (Nat.le_of_ble_eq_true rfl) (by decide) (by decide) dL_meets_66 rfl rfl rfl rfl ?_
        refine g_if_eq (pc := 69) (tgt := 76) B dL_meets_69 (by decide) (fun c69 => ?_) (fun c69 => ?_)
        · rw [if_pos c69] at h
          refine g_iconst (pc := 76) B dL_meets_76 (0 : Int32) (by decide) ?_
          obtain rfl := Option.some.inj h
          exact g_ret_Z (pc := 77) B rfl (Or.inl rfl) (by decide) (by decide) dL_meets_77
        · rw [if_neg c69] at h
          refine g_iconst (pc := 72) B dL_meets_72 (1 : Int32) (by decide) ?_
          refine g_goto (pc := 73) (tgt := 77) B dL_meets_73 (by decide) ?_
          obtain rfl := Option.some.inj h
          exact g_ret_Z (pc := 77) B rfl (Or.inr rfl) (by decide) (by decide) dL_meets_77
theorem ct_L_meets {D : DD} {l : Launch} {X0 : LwP} {fu : Nat} {x0 : Nat} {x1 : Nat} {x2 : Nat} {x3 : Nat} {x4 : Int32} {r : Int32} (hl : l.stackTraces = false) (hap : apM X0.1 X0.2) (h : fL_meets fu X0 x0 x1 x2 x3 x4 = some r) : Ctr D l yL_meets cL_meets 7 (some .boolean) rmL_meets [vA (some x0), vA (some x1), vA (some x2), vA (some x3), vI x4] (lM X0) (.inr (some (vI r))) (lM X0) :=
  ctr_of hl (by decide +kernel) (Nat.le_of_ble_eq_true rfl) fun ev _ ht B => cb_L_meets_L0 B ht hap h
set_option maxRecDepth 100000 in
set_option maxHeartbeats 4000000 in
theorem cb_L_allows_L62 {D : DD} {ev : EV} {X0 : LwP} {fu : Nat} {rec23 : LwP → Nat → Nat → Nat → Nat → Int32 → Int32 → Int32 → Int32 → Int32 → Option (Int32 × LwP)} {X : LwP} {x0 : Nat} {x1 : Nat} {x2 : Nat} {x3 : Nat} {x4 : Int32} {x5 : Int32} {x6 : Int32} {x8 : Int32} {s0 : Int32} {s1 : Int32} {r : Int32 × LwP} (B : Amb D (foot (lM X0)) ev RL "allows" cL_allows 9 (some .boolean) rmL_allows) (ht : Tb0 ev) (hap : apM X.1 X.2) (hrec23 : ∀ {X : LwP} {x0 : Nat} {x1 : Nat} {x2 : Nat} {x3 : Nat} {x4 : Int32} {x5 : Int32} {x6 : Int32} {x7 : Int32} {x8 : Int32} {r : Int32 × LwP}, apM X.1 X.2 → rec23 X x0 x1 x2 x3 x4 x5 x6 x7 x8 = some r → Gd D (foot (lM X0)) ev (QF D ev (lM X0) (.inr (some (vI r.1))) (lM r.2) rmL_allows) (lM X) 0 0 23 [(0, vA (some x0)), (1, vA (some x1)), (2, vA (some x2)), (3, vA (some x3)), (4, vI x4), (5, vI x5), (6, vI x6), (7, vI x7), (8, vI x8)] []) (h : fL_allows_L62 fu rec23 X x0 x1 x2 x3 x4 x5 x6 x8 s0 s1 = some r) : Gd D (foot (lM X0)) ev (QF D ev (lM X0) (.inr (some (vI r.1))) (lM r.2) rmL_allows) (lM X) 0 0 62 [(0, vA (some x0)), (1, vA (some x1)), (2, vA (some x2)), (3, vA (some x3)), (4, vI x4), (5, vI x5), (6, vI x6), (8, vI x8)] [vI s1, vI s0] := by
  unfold fL_allows_L62 at h
  refine g_iadd (pc := 62) B dL_allows_62 ?_
  refine g_istore (pc := 63) (L' := [(7, vI (s0 + s1)), (0, vA (some x0)), (1, vA (some x1)), (2, vA (some x2)), (3, vA (some x3)), (4, vI x4), (5, vI x5), (6, vI x6), (8, vI x8)]) B dL_allows_63 (by decide) rfl ?_
  refine g_iinc (pc := 65) (v := (x8 + (1 : Int32))) (L' := [(8, vI (x8 + (1 : Int32))), (7, vI (s0 + s1)), (0, vA (some x0)), (1, vA (some x1)), (2, vA (some x2)), (3, vA (some x3)), (4, vI x4), (5, vI x5), (6, vI x6)]) B dL_allows_65 (by decide) 8 rfl rfl rfl ?_
  refine g_goto (pc := 68) (tgt := 23) B dL_allows_68 (by decide) ?_
  refine g_sub (pc := 23) [2, 3, 4, 5, 6, 7, 8, 1, 0] rfl ?_
  exact hrec23 hap h
set_option maxRecDepth 100000 in
set_option maxHeartbeats 4000000 in
theorem cb_L_allows_L61 {D : DD} {ev : EV} {X0 : LwP} {fu : Nat} {rec23 : LwP → Nat → Nat → Nat → Nat → Int32 → Int32 → Int32 → Int32 → Int32 → Option (Int32 × LwP)} {X : LwP} {x0 : Nat} {x1 : Nat} {x2 : Nat} {x3 : Nat} {x4 : Int32} {x5 : Int32} {x6 : Int32} {x8 : Int32} {s0 : Int32} {r : Int32 × LwP} (B : Amb D (foot (lM X0)) ev RL "allows" cL_allows 9 (some .boolean) rmL_allows) (ht : Tb0 ev) (hap : apM X.1 X.2) (hrec23 : ∀ {X : LwP} {x0 : Nat} {x1 : Nat} {x2 : Nat} {x3 : Nat} {x4 : Int32} {x5 : Int32} {x6 : Int32} {x7 : Int32} {x8 : Int32} {r : Int32 × LwP}, apM X.1 X.2 → rec23 X x0 x1 x2 x3 x4 x5 x6 x7 x8 = some r → Gd D (foot (lM X0)) ev (QF D ev (lM X0) (.inr (some (vI r.1))) (lM r.2) rmL_allows) (lM X) 0 0 23 [(0, vA (some x0)), (1, vA (some x1)), (2, vA (some x2)), (3, vA (some x3)), (4, vI x4), (5, vI x5), (6, vI x6), (7, vI x7), (8, vI x8)] []) (h : fL_allows_L61 fu rec23 X x0 x1 x2 x3 x4 x5 x6 x8 s0 = some r) : Gd D (foot (lM X0)) ev (QF D ev (lM X0) (.inr (some (vI r.1))) (lM r.2) rmL_allows) (lM X) 0 0 61 [(0, vA (some x0)), (1, vA (some x1)), (2, vA (some x2)), (3, vA (some x3)), (4, vI x4), (5, vI x5), (6, vI x6), (8, vI x8)] [vI s0] := by
  unfold fL_allows_L61 at h
  refine g_iconst (pc := 61) B dL_allows_61 (0 : Int32) (by decide) ?_
  refine g_sub (pc := 62) [0, 1, 2, 3, 4, 5, 6, 7] rfl ?_
  exact cb_L_allows_L62 B ht hap hrec23 h
set_option maxRecDepth 100000 in
set_option maxHeartbeats 4000000 in
theorem cb_L_allows_L23b {D : DD} {ev : EV} {X0 : LwP} {fu : Nat} {rec23 : LwP → Nat → Nat → Nat → Nat → Int32 → Int32 → Int32 → Int32 → Int32 → Option (Int32 × LwP)} {X : LwP} {x0 : Nat} {x1 : Nat} {x2 : Nat} {x3 : Nat} {x4 : Int32} {x5 : Int32} {x6 : Int32} {x7 : Int32} {x8 : Int32} {r : Int32 × LwP} (B : Amb D (foot (lM X0)) ev RL "allows" cL_allows 9 (some .boolean) rmL_allows) (ht : Tb0 ev) (hap : apM X.1 X.2) (hrec23 : ∀ {X : LwP} {x0 : Nat} {x1 : Nat} {x2 : Nat} {x3 : Nat} {x4 : Int32} {x5 : Int32} {x6 : Int32} {x7 : Int32} {x8 : Int32} {r : Int32 × LwP}, apM X.1 X.2 → rec23 X x0 x1 x2 x3 x4 x5 x6 x7 x8 = some r → Gd D (foot (lM X0)) ev (QF D ev (lM X0) (.inr (some (vI r.1))) (lM r.2) rmL_allows) (lM X) 0 0 23 [(0, vA (some x0)), (1, vA (some x1)), (2, vA (some x2)), (3, vA (some x3)), (4, vI x4), (5, vI x5), (6, vI x6), (7, vI x7), (8, vI x8)] []) (h : fL_allows_L23b fu rec23 X x0 x1 x2 x3 x4 x5 x6 x7 x8 = some r) : Gd D (foot (lM X0)) ev (QF D ev (lM X0) (.inr (some (vI r.1))) (lM r.2) rmL_allows) (lM X) 0 0 23 [(0, vA (some x0)), (1, vA (some x1)), (2, vA (some x2)), (3, vA (some x3)), (4, vI x4), (5, vI x5), (6, vI x6), (7, vI x7), (8, vI x8)] [] := by
  unfold fL_allows_L23b at h
  refine g_iload (pc := 23) B dL_allows_23 8 rfl ?_
  refine g_aload_n (pc := 25) B dL_allows_25 1 rfl ?_
  refine g_iconst (pc := 26) B dL_allows_26 (5 : Int32) (by decide) ?_
  obtain ⟨c27, h⟩ := chk h
  refine gp_iald (pc := 27) (P := X) B hap c27 dL_allows_27 ?_
  refine g_icmp_ge (pc := 28) (tgt := 71) B dL_allows_28 (by decide) (fun c28 => ?_) (fun c28 => ?_)
  · rw [if_pos c28] at h
    refine g_aload_n (pc := 71) B dL_allows_71 0 rfl ?_
    refine g_iload (pc := 72) B dL_allows_72 4 rfl ?_
    refine g_iload (pc := 74) B dL_allows_74 5 rfl ?_
    refine g_iload (pc := 76) B dL_allows_76 6 rfl ?_
    obtain ⟨k78_1, h⟩ := chk h
    obtain ⟨v78, X78, e78, h⟩ := nTW_s h
    obtain ⟨P78, eP78, h⟩ := ob h
    obtain ⟨hap78, h⟩ := apC_s h
    refine p_callVW (pc := 78) (P := X) (As := [vI x4, vI x5, vI x6]) (st := []) (st10 := [vI v78]) (cs' := 0) (sl' := 0) B cal_X11_allow kmL_132 kn_X11_allow ks_X11_allow hap k78_1 rfl (fun l hl => ct_X11_allow hl e78) eP78 rfl (Nat.le_of_ble_eq_true rfl) (by decide) (by decide) dL_allows_78 rfl rfl rfl rfl ?_
    refine g_iload (pc := 81) B dL_allows_81 7 rfl ?_
    refine g_icmp_ne (pc := 83) (tgt := 90) B dL_allows_83 (by decide) (fun c83 => ?_) (fun c83 => ?_)
    · rw [if_neg c83] at h
      refine g_iconst (pc := 90) B dL_allows_90 (0 : Int32) (by decide) ?_
      obtain rfl := Option.some.inj h
      exact g_ret_Z (pc := 91) B rfl (Or.inl rfl) (by decide) (by decide) dL_allows_91
    · rw [if_pos c83] at h
      refine g_iconst (pc := 86) B dL_allows_86 (1 : Int32) (by decide) ?_
      refine g_goto (pc := 87) (tgt := 91) B dL_allows_87 (by decide) ?_
      obtain rfl := Option.some.inj h
      exact g_ret_Z (pc := 91) B rfl (Or.inr rfl) (by decide) (by decide) dL_allows_91
  · rw [if_neg c28] at h
    refine g_iload (pc := 31) B dL_allows_31 7 rfl ?_
    refine g_aload_n (pc := 33) B dL_allows_33 3 rfl ?_
    refine g_bipush (pc := 34) B dL_allows_34 (22 : Int32) (by decide) ?_
    refine g_iload (pc := 36) B dL_allows_36 8 rfl ?_
    refine g_iadd (pc := 38) B dL_allows_38 ?_
    obtain ⟨c39, h⟩ := chk h
    refine gp_iald (pc := 39) (P := X) B hap c39 dL_allows_39 ?_
    refine g_iload (pc := 40) B dL_allows_40 4 rfl ?_
    refine g_icmp_ne (pc := 42) (tgt := 61) B dL_allows_42 (by decide) (fun c42 => ?_) (fun c42 => ?_)
    · rw [if_neg c42] at h
      refine g_sub (pc := 61) [0, 1, 2, 3, 4, 5, 6, 8] rfl ?_
      exact cb_L_allows_L61 B ht hap hrec23 h
    · rw [if_pos c42] at h
      refine g_aload_n (pc := 45) B dL_allows_45 0 rfl ?_
      refine g_aload_n (pc := 46) B dL_allows_46 1 rfl ?_
      refine g_aload_n (pc := 47) B dL_allows_47 2 rfl ?_
      refine g_aload_n (pc := 48) B dL_allows_48 3 rfl ?_
      refine g_iload (pc := 49) B dL_allows_49 8 rfl ?_
      obtain ⟨v51, e51, h⟩ := ob h
      refine h_callS (pc := 51) (As := [vA (some x0), vA (some x1), vA (some x2), vA (some x3), vI x8]) (st := [vI x7]) (X' := (lM X)) (cs' := 0) (sl' := 0) (st10 := [vI v51, vI x7]) B cal_L_meets kmL_128 kz_L_meets (fun l hl => ct_L_meets (X0 := X) hl hap e51) rfl (Nat.le_of_ble_eq_true rfl) (by decide) (by decide) dL_allows_51 rfl rfl rfl rfl ?_
      refine g_if_eq (pc := 54) (tgt := 61) B dL_allows_54 (by decide) (fun c54 => ?_) (fun c54 => ?_)
      · rw [if_pos c54] at h
        refine g_sub (pc := 61) [0, 1, 2, 3, 4, 5, 6, 8] rfl ?_
        exact cb_L_allows_L61 B ht hap hrec23 h
      · rw [if_neg c54] at h
        refine g_iconst (pc := 57) B dL_allows_57 (1 : Int32) (by decide) ?_
        refine g_goto (pc := 58) (tgt := 62) B dL_allows_58 (by decide) ?_
        refine g_sub (pc := 62) [0, 1, 2, 3, 4, 5, 6, 8] rfl ?_
        exact cb_L_allows_L62 B ht hap hrec23 h
theorem cb_L_allows_L23n {D : DD} {ev : EV} {X0 : LwP} {fu : Nat} (B : Amb D (foot (lM X0)) ev RL "allows" cL_allows 9 (some .boolean) rmL_allows) (ht : Tb0 ev)  : ∀ (n : Nat) {X : LwP} {x0 : Nat} {x1 : Nat} {x2 : Nat} {x3 : Nat} {x4 : Int32} {x5 : Int32} {x6 : Int32} {x7 : Int32} {x8 : Int32} {r : Int32 × LwP}, apM X.1 X.2 → fL_allows_L23 fu n X x0 x1 x2 x3 x4 x5 x6 x7 x8 = some r → Gd D (foot (lM X0)) ev (QF D ev (lM X0) (.inr (some (vI r.1))) (lM r.2) rmL_allows) (lM X) 0 0 23 [(0, vA (some x0)), (1, vA (some x1)), (2, vA (some x2)), (3, vA (some x3)), (4, vI x4), (5, vI x5), (6, vI x6), (7, vI x7), (8, vI x8)] [] := by
  intro n
  induction n with
  | zero => intro X x0 x1 x2 x3 x4 x5 x6 x7 x8 r hap h; exact nomatch h
  | succ n ih => intro X x0 x1 x2 x3 x4 x5 x6 x7 x8 r hap h; exact cb_L_allows_L23b (fu := fu) B ht hap (fun hap9 h9 => ih hap9 h9) h
theorem cb_L_allows_L23 {D : DD} {ev : EV} {X0 : LwP} {fu : Nat} {X : LwP} {x0 : Nat} {x1 : Nat} {x2 : Nat} {x3 : Nat} {x4 : Int32} {x5 : Int32} {x6 : Int32} {x7 : Int32} {x8 : Int32} {n : Nat} {r : Int32 × LwP} (B : Amb D (foot (lM X0)) ev RL "allows" cL_allows 9 (some .boolean) rmL_allows) (ht : Tb0 ev) (hap : apM X.1 X.2)  (h : fL_allows_L23 fu n X x0 x1 x2 x3 x4 x5 x6 x7 x8 = some r) : Gd D (foot (lM X0)) ev (QF D ev (lM X0) (.inr (some (vI r.1))) (lM r.2) rmL_allows) (lM X) 0 0 23 [(0, vA (some x0)), (1, vA (some x1)), (2, vA (some x2)), (3, vA (some x3)), (4, vI x4), (5, vI x5), (6, vI x6), (7, vI x7), (8, vI x8)] [] := cb_L_allows_L23n B ht n hap h
set_option maxRecDepth 100000 in
set_option maxHeartbeats 4000000 in
theorem cb_L_allows_L0 {D : DD} {ev : EV} {X0 : LwP} {fu : Nat} {X : LwP} {x0 : Nat} {x1 : Nat} {x2 : Nat} {x3 : Nat} {x4 : Int32} {x5 : Int32} {x6 : Int32} {r : Int32 × LwP} (B : Amb D (foot (lM X0)) ev RL "allows" cL_allows 9 (some .boolean) rmL_allows) (ht : Tb0 ev) (hap : apM X.1 X.2)  (h : fL_allows fu X x0 x1 x2 x3 x4 x5 x6 = some r) : Gd D (foot (lM X0)) ev (QF D ev (lM X0) (.inr (some (vI r.1))) (lM r.2) rmL_allows) (lM X) 0 0 0 [(0, vA (some x0)), (1, vA (some x1)), (2, vA (some x2)), (3, vA (some x3)), (4, vI x4), (5, vI x5), (6, vI x6)] [] := by
  unfold fL_allows at h
  refine g_iconst (pc := 0) B dL_allows_0 (0 : Int32) (by decide) ?_
  refine g_istore (pc := 1) (L' := [(7, vI (0 : Int32)), (0, vA (some x0)), (1, vA (some x1)), (2, vA (some x2)), (3, vA (some x3)), (4, vI x4), (5, vI x5), (6, vI x6)]) B dL_allows_1 (by decide) rfl ?_
  refine g_aload_n (pc := 3) B dL_allows_3 4 rfl ?_
  refine g_iconst (pc := 4) B dL_allows_4 (4 : Int32) (by decide) ?_
  refine g_iload (pc := 5) B dL_allows_5 5 rfl ?_
  refine g_iadd (pc := 7) B dL_allows_7 ?_
  refine g_iload (pc := 8) B dL_allows_8 6 rfl ?_
  obtain ⟨c10, h⟩ := chk h
  refine gp_iast (pc := 10) (P := X) B hap c10 dL_allows_10 ?_
  refine g_aload_n (pc := 11) B dL_allows_11 4 rfl ?_
  refine g_bipush (pc := 12) B dL_allows_12 (8 : Int32) (by decide) ?_
  refine g_iload (pc := 14) B dL_allows_14 5 rfl ?_
  refine g_iadd (pc := 16) B dL_allows_16 ?_
  refine g_iload (pc := 17) B dL_allows_17 7 rfl ?_
  obtain ⟨c19, h⟩ := chk h
  refine gp_iast (pc := 19) (P := (X.1, (sI X.2 x3 ((4 : Int32) + x4).toNatClampNeg x5))) B hap c19 dL_allows_19 ?_
  refine g_iconst (pc := 20) B dL_allows_20 (0 : Int32) (by decide) ?_
  refine g_istore (pc := 21) (L' := [(8, vI (0 : Int32)), (7, vI (0 : Int32)), (0, vA (some x0)), (1, vA (some x1)), (2, vA (some x2)), (3, vA (some x3)), (4, vI x4), (5, vI x5), (6, vI x6)]) B dL_allows_21 (by decide) rfl ?_
  refine g_sub (pc := 23) [2, 3, 4, 5, 6, 7, 8, 1, 0] rfl ?_
  exact cb_L_allows_L23 B ht hap h
theorem ct_L_allows {D : DD} {l : Launch} {X0 : LwP} {fu : Nat} {x0 : Nat} {x1 : Nat} {x2 : Nat} {x3 : Nat} {x4 : Int32} {x5 : Int32} {x6 : Int32} {r : Int32 × LwP} (hl : l.stackTraces = false) (hap : apM X0.1 X0.2) (h : fL_allows fu X0 x0 x1 x2 x3 x4 x5 x6 = some r) : Ctr D l yL_allows cL_allows 9 (some .boolean) rmL_allows [vA (some x0), vA (some x1), vA (some x2), vA (some x3), vI x4, vI x5, vI x6] (lM X0) (.inr (some (vI r.1))) (lM r.2) :=
  ctr_of hl (by decide +kernel) (Nat.le_of_ble_eq_true rfl) fun ev _ ht B => cb_L_allows_L0 B ht hap h
set_option maxRecDepth 100000 in
set_option maxHeartbeats 4000000 in
theorem cb_L_step_L620 {D : DD} {ev : EV} {X0 : LwP} {fu : Nat} {X : LwP} {x0 : Nat} {x1 : Nat} {r : Int32 × LwP} (B : Amb D (foot (lM X0)) ev RL "step" cL_step 12 (some .boolean) rmL_step) (ht : Tb0 ev) (hap : apM X.1 X.2)  (h : fL_step_L620 fu X x0 x1 = some r) : Gd D (foot (lM X0)) ev (QF D ev (lM X0) (.inr (some (vI r.1))) (lM r.2) rmL_step) (lM X) 0 0 620 [(0, vA (some x0)), (1, vA (some x1))] [] := by
  unfold fL_step_L620 at h
  refine g_aload_n (pc := 620) B dL_step_620 1 rfl ?_
  refine g_iconst (pc := 621) B dL_step_621 (0 : Int32) (by decide) ?_
  obtain ⟨c622, h⟩ := chk h
  refine gp_iald (pc := 622) (P := X) B hap c622 dL_step_622 ?_
  refine g_istore (pc := 623) (L' := [(11, vI (aI X.2 x1 (0 : Int32).toNatClampNeg)), (0, vA (some x0)), (1, vA (some x1))]) B dL_step_623 (by decide) rfl ?_
  refine g_aload_n (pc := 625) B dL_step_625 2 rfl ?_
  refine g_iconst (pc := 626) B dL_step_626 (0 : Int32) (by decide) ?_
  refine g_iconst (pc := 627) B dL_step_627 (0 : Int32) (by decide) ?_
  obtain ⟨c628, h⟩ := chk h
  refine gp_iast (pc := 628) (P := X) B hap c628 dL_step_628 ?_
  refine g_aload_n (pc := 629) B dL_step_629 2 rfl ?_
  refine g_iconst (pc := 630) B dL_step_630 (1 : Int32) (by decide) ?_
  refine g_iconst (pc := 631) B dL_step_631 (0 : Int32) (by decide) ?_
  obtain ⟨c632, h⟩ := chk h
  refine gp_iast (pc := 632) (P := (X.1, (sI X.2 x1 (0 : Int32).toNatClampNeg (0 : Int32)))) B hap c632 dL_step_632 ?_
  refine g_aload_n (pc := 633) B dL_step_633 2 rfl ?_
  refine g_iconst (pc := 634) B dL_step_634 (2 : Int32) (by decide) ?_
  refine g_iconst (pc := 635) B dL_step_635 (0 : Int32) (by decide) ?_
  obtain ⟨c636, h⟩ := chk h
  refine gp_iast (pc := 636) (P := (X.1, (sI (sI X.2 x1 (0 : Int32).toNatClampNeg (0 : Int32)) x1 (1 : Int32).toNatClampNeg (0 : Int32)))) B hap c636 dL_step_636 ?_
  refine g_aload_n (pc := 637) B dL_step_637 1 rfl ?_
  obtain ⟨k638_1, h⟩ := chk h
  obtain ⟨v638, X638, e638, h⟩ := obW h
  obtain ⟨P638, eP638, h⟩ := ob h
  obtain ⟨hap638, h⟩ := apC_s h
  refine p_callVW (pc := 638) (P := (X.1, (sI (sI (sI X.2 x1 (0 : Int32).toNatClampNeg (0 : Int32)) x1 (1 : Int32).toNatClampNeg (0 : Int32)) x1 (2 : Int32).toNatClampNeg (0 : Int32)))) (As := []) (st := []) (st10 := [vI v638]) (cs' := 0) (sl' := 0) B cal_X11_wipe kmL_55 kn_X11_wipe ks_X11_wipe hap k638_1 rfl (fun l hl => ct_X11_wipe hl e638) eP638 rfl (Nat.le_of_ble_eq_true rfl) (by decide) (by decide) dL_step_638 rfl rfl rfl rfl ?_
  refine g_iload (pc := 641) B dL_step_641 0 rfl ?_
  refine g_icmp_ne (pc := 643) (tgt := 657) B dL_step_643 (by decide) (fun c643 => ?_) (fun c643 => ?_)
  · rw [if_neg c643] at h
    refine g_iconst (pc := 657) B dL_step_657 (0 : Int32) (by decide) ?_
    obtain rfl := Option.some.inj h
    exact g_ret_Z (pc := 658) B rfl (Or.inl rfl) (by decide) (by decide) dL_step_658
  · rw [if_pos c643] at h
    refine g_aload_n (pc := 646) B dL_step_646 1 rfl ?_
    obtain ⟨k647_2, h⟩ := chk h
    obtain ⟨v647, e647, h⟩ := ob h
    refine p_callV (pc := 647) (P := P638) (As := []) (st := []) (st10 := [vI v647]) (cs' := 0) (sl' := 0) B cal_X11_drafted kmL_52 kn_X11_drafted ks_X11_drafted hap638 k647_2 rfl (fun l hl => ct_X11_drafted hl e647) rfl (Nat.le_of_ble_eq_true rfl) (by decide) (by decide) dL_step_647 rfl rfl rfl rfl ?_
    refine g_if_ne (pc := 650) (tgt := 657) B dL_step_650 (by decide) (fun c650 => ?_) (fun c650 => ?_)
    · rw [if_neg c650] at h
      refine g_iconst (pc := 657) B dL_step_657 (0 : Int32) (by decide) ?_
      obtain rfl := Option.some.inj h
      exact g_ret_Z (pc := 658) B rfl (Or.inl rfl) (by decide) (by decide) dL_step_658
    · rw [if_pos c650] at h
      refine g_iconst (pc := 653) B dL_step_653 (1 : Int32) (by decide) ?_
      refine g_goto (pc := 654) (tgt := 658) B dL_step_654 (by decide) ?_
      obtain rfl := Option.some.inj h
      exact g_ret_Z (pc := 658) B rfl (Or.inr rfl) (by decide) (by decide) dL_step_658
set_option maxRecDepth 100000 in
set_option maxHeartbeats 4000000 in
theorem cb_L_step_L80 {D : DD} {ev : EV} {X0 : LwP} {fu : Nat} {X : LwP} {x0 : Nat} {x1 : Nat} {x4 : Int32} {x5 : Int32} {x6 : Int32} {r : Int32 × LwP} (B : Amb D (foot (lM X0)) ev RL "step" cL_step 12 (some .boolean) rmL_step) (ht : Tb0 ev) (hap : apM X.1 X.2)  (h : fL_step_L80 fu X x0 x1 x4 x5 x6 = some r) : Gd D (foot (lM X0)) ev (QF D ev (lM X0) (.inr (some (vI r.1))) (lM r.2) rmL_step) (lM X) 0 0 80 [(0, vA (some x0)), (1, vA (some x1)), (4, vI x4), (5, vI x5), (6, vI x6)] [] := by
  unfold fL_step_L80 at h
  refine g_aload_n (pc := 80) B dL_step_80 1 rfl ?_
  refine g_iconst (pc := 81) B dL_step_81 (0 : Int32) (by decide) ?_
  obtain ⟨c82, h⟩ := chk h
  refine gp_iald (pc := 82) (P := X) B hap c82 dL_step_82 ?_
  refine g_bipush (pc := 83) B dL_step_83 (30 : Int32) (by decide) ?_
  refine g_icmp_eq (pc := 85) (tgt := 105) B dL_step_85 (by decide) (fun c85 => ?_) (fun c85 => ?_)
  · rw [if_pos c85] at h
    refine g_iconst (pc := 105) B dL_step_105 (1 : Int32) (by decide) ?_
    refine g_goto (pc := 106) (tgt := 110) B dL_step_106 (by decide) ?_
    obtain rfl := Option.some.inj h
    exact g_ret_Z (pc := 110) B rfl (Or.inr rfl) (by decide) (by decide) dL_step_110
  · rw [if_neg c85] at h
    refine g_aload_n (pc := 88) B dL_step_88 0 rfl ?_
    refine g_aload_n (pc := 89) B dL_step_89 1 rfl ?_
    refine g_iload (pc := 90) B dL_step_90 2 rfl ?_
    refine g_bipush (pc := 92) B dL_step_92 (7 : Int32) (by decide) ?_
    refine g_irem (pc := 94) B dL_step_94 (by decide) ?_
    refine g_iload (pc := 95) B dL_step_95 3 rfl ?_
    refine g_iload (pc := 97) B dL_step_97 4 rfl ?_
    obtain ⟨v99, X99, e99, h⟩ := obW h
    obtain ⟨hap99, h⟩ := apC_s h
    refine h_callS (pc := 99) (As := [vA (some x0), vA (some x1), vI (x4 - x4 / (7 : Int32) * (7 : Int32)), vI x5, vI x6]) (st := []) (X' := (lM X99)) (cs' := 9) (sl' := 36) (st10 := [vI v99]) B cal_L_drafts kmL_10 kz_L_drafts (fun l hl => ct_L_drafts (X0 := X) hl hap e99) rfl (Nat.le_of_ble_eq_true rfl) (by decide) (by decide) dL_step_99 rfl rfl rfl rfl ?_
    refine g_if_eq (pc := 102) (tgt := 109) B dL_step_102 (by decide) (fun c102 => ?_) (fun c102 => ?_)
    · rw [if_pos c102] at h
      refine g_iconst (pc := 109) B dL_step_109 (0 : Int32) (by decide) ?_
      obtain rfl := Option.some.inj h
      exact g_ret_Z (pc := 110) B rfl (Or.inl rfl) (by decide) (by decide) dL_step_110
    · rw [if_neg c102] at h
      refine g_iconst (pc := 105) B dL_step_105 (1 : Int32) (by decide) ?_
      refine g_goto (pc := 106) (tgt := 110) B dL_step_106 (by decide) ?_
      obtain rfl := Option.some.inj h
      exact g_ret_Z (pc := 110) B rfl (Or.inr rfl) (by decide) (by decide) dL_step_110
set_option maxRecDepth 100000 in
set_option maxHeartbeats 4000000 in
theorem cb_L_step_L111 {D : DD} {ev : EV} {X0 : LwP} {fu : Nat} {X : LwP} {x0 : Nat} {x1 : Nat} {x2 : Nat} {x6 : Int32} {r : Int32 × LwP} (B : Amb D (foot (lM X0)) ev RL "step" cL_step 12 (some .boolean) rmL_step) (ht : Tb0 ev) (hap : apM X.1 X.2)  (h : fL_step_L111 fu X x0 x1 x2 x6 = some r) : Gd D (foot (lM X0)) ev (QF D ev (lM X0) (.inr (some (vI r.1))) (lM r.2) rmL_step) (lM X) 0 0 111 [(0, vA (some x0)), (1, vA (some x1)), (2, vA (some x2)), (6, vI x6)] [] := by
  unfold fL_step_L111 at h
  refine g_aload_n (pc := 111) B dL_step_111 1 rfl ?_
  refine g_iconst (pc := 112) B dL_step_112 (0 : Int32) (by decide) ?_
  obtain ⟨c113, h⟩ := chk h
  refine gp_iald (pc := 113) (P := X) B hap c113 dL_step_113 ?_
  refine g_if_eq (pc := 114) (tgt := 138) B dL_step_114 (by decide) (fun c114 => ?_) (fun c114 => ?_)
  · rw [if_pos c114] at h
    refine g_iconst (pc := 138) B dL_step_138 (1 : Int32) (by decide) ?_
    refine g_goto (pc := 139) (tgt := 143) B dL_step_139 (by decide) ?_
    obtain rfl := Option.some.inj h
    exact g_ret_Z (pc := 143) B rfl (Or.inr rfl) (by decide) (by decide) dL_step_143
  · rw [if_neg c114] at h
    refine g_aload_n (pc := 117) B dL_step_117 1 rfl ?_
    refine g_iconst (pc := 118) B dL_step_118 (3 : Int32) (by decide) ?_
    obtain ⟨c119, h⟩ := chk h
    refine gp_iald (pc := 119) (P := X) B hap c119 dL_step_119 ?_
    refine g_bipush (pc := 120) B dL_step_120 (10 : Int32) (by decide) ?_
    refine g_icmp_eq (pc := 122) (tgt := 138) B dL_step_122 (by decide) (fun c122 => ?_) (fun c122 => ?_)
    · rw [if_pos c122] at h
      refine g_iconst (pc := 138) B dL_step_138 (1 : Int32) (by decide) ?_
      refine g_goto (pc := 139) (tgt := 143) B dL_step_139 (by decide) ?_
      obtain rfl := Option.some.inj h
      exact g_ret_Z (pc := 143) B rfl (Or.inr rfl) (by decide) (by decide) dL_step_143
    · rw [if_neg c122] at h
      refine g_aload_n (pc := 125) B dL_step_125 0 rfl ?_
      refine g_aload_n (pc := 126) B dL_step_126 1 rfl ?_
      refine g_aload_n (pc := 127) B dL_step_127 2 rfl ?_
      refine g_iload (pc := 128) B dL_step_128 3 rfl ?_
      refine g_iconst (pc := 130) B dL_step_130 (3 : Int32) (by decide) ?_
      refine g_irem (pc := 131) B dL_step_131 (by decide) ?_
      obtain ⟨v132, X132, e132, h⟩ := obW h
      obtain ⟨hap132, h⟩ := apC_s h
      refine h_callS (pc := 132) (As := [vA (some x0), vA (some x1), vA (some x2), vI (x6 - x6 / (3 : Int32) * (3 : Int32))]) (st := []) (X' := (lM X132)) (cs' := 47) (sl' := 299) (st10 := [vI v132]) B cal_L_writes kmL_16 kz_L_writes (fun l hl => ct_L_writes (X0 := X) hl hap e132) rfl (Nat.le_of_ble_eq_true rfl) (by decide) (by decide) dL_step_132 rfl rfl rfl rfl ?_
      refine g_if_eq (pc := 135) (tgt := 142) B dL_step_135 (by decide) (fun c135 => ?_) (fun c135 => ?_)
      · rw [if_pos c135] at h
        refine g_iconst (pc := 142) B dL_step_142 (0 : Int32) (by decide) ?_
        obtain rfl := Option.some.inj h
        exact g_ret_Z (pc := 143) B rfl (Or.inl rfl) (by decide) (by decide) dL_step_143
      · rw [if_neg c135] at h
        refine g_iconst (pc := 138) B dL_step_138 (1 : Int32) (by decide) ?_
        refine g_goto (pc := 139) (tgt := 143) B dL_step_139 (by decide) ?_
        obtain rfl := Option.some.inj h
        exact g_ret_Z (pc := 143) B rfl (Or.inr rfl) (by decide) (by decide) dL_step_143
set_option maxRecDepth 100000 in
set_option maxHeartbeats 4000000 in
theorem cb_L_step_L157 {D : DD} {ev : EV} {X0 : LwP} {fu : Nat} {X : LwP} {x0 : Nat} {x1 : Nat} {r : Int32 × LwP} (B : Amb D (foot (lM X0)) ev RL "step" cL_step 12 (some .boolean) rmL_step) (ht : Tb0 ev) (hap : apM X.1 X.2)  (h : fL_step_L157 fu X x0 x1 = some r) : Gd D (foot (lM X0)) ev (QF D ev (lM X0) (.inr (some (vI r.1))) (lM r.2) rmL_step) (lM X) 0 0 157 [(0, vA (some x0)), (1, vA (some x1))] [] := by
  unfold fL_step_L157 at h
  refine g_aload_n (pc := 157) B dL_step_157 0 rfl ?_
  obtain ⟨k158_1, h⟩ := chk h
  obtain ⟨v158, e158, h⟩ := ob h
  refine p_callV (pc := 158) (P := X) (As := []) (st := []) (st10 := [vI v158]) (cs' := 0) (sl' := 0) B cal_X11_programs kmL_20 kn_X11_programs ks_X11_programs hap k158_1 rfl (fun l hl => ct_X11_programs hl e158) rfl (Nat.le_of_ble_eq_true rfl) (by decide) (by decide) dL_step_158 rfl rfl rfl rfl ?_
  refine g_aload_n (pc := 161) B dL_step_161 1 rfl ?_
  refine g_iconst (pc := 162) B dL_step_162 (3 : Int32) (by decide) ?_
  obtain ⟨c163, h⟩ := chk h
  refine gp_iald (pc := 163) (P := X) B hap c163 dL_step_163 ?_
  refine g_icmp_ne (pc := 164) (tgt := 171) B dL_step_164 (by decide) (fun c164 => ?_) (fun c164 => ?_)
  · rw [if_neg c164] at h
    refine g_iconst (pc := 171) B dL_step_171 (0 : Int32) (by decide) ?_
    obtain rfl := Option.some.inj h
    exact g_ret_Z (pc := 172) B rfl (Or.inl rfl) (by decide) (by decide) dL_step_172
  · rw [if_pos c164] at h
    refine g_iconst (pc := 167) B dL_step_167 (1 : Int32) (by decide) ?_
    refine g_goto (pc := 168) (tgt := 172) B dL_step_168 (by decide) ?_
    obtain rfl := Option.some.inj h
    exact g_ret_Z (pc := 172) B rfl (Or.inr rfl) (by decide) (by decide) dL_step_172
set_option maxRecDepth 100000 in
set_option maxHeartbeats 4000000 in
theorem cb_L_step_L326 {D : DD} {ev : EV} {X0 : LwP} {fu : Nat} {X : LwP} {x0 : Nat} {x1 : Nat} {r : Int32 × LwP} (B : Amb D (foot (lM X0)) ev RL "step" cL_step 12 (some .boolean) rmL_step) (ht : Tb0 ev) (hap : apM X.1 X.2)  (h : fL_step_L326 fu X x0 x1 = some r) : Gd D (foot (lM X0)) ev (QF D ev (lM X0) (.inr (some (vI r.1))) (lM r.2) rmL_step) (lM X) 0 0 326 [(0, vA (some x0)), (1, vA (some x1))] [] := by
  unfold fL_step_L326 at h
  refine g_aload_n (pc := 326) B dL_step_326 0 rfl ?_
  obtain ⟨k327_1, h⟩ := chk h
  obtain ⟨v327, e327, h⟩ := ob h
  refine p_callV (pc := 327) (P := X) (As := []) (st := []) (st10 := [vI v327]) (cs' := 0) (sl' := 0) B cal_X11_works kmL_34 kn_X11_works ks_X11_works hap k327_1 rfl (fun l hl => ct_X11_works hl e327) rfl (Nat.le_of_ble_eq_true rfl) (by decide) (by decide) dL_step_327 rfl rfl rfl rfl ?_
  refine g_aload_n (pc := 330) B dL_step_330 1 rfl ?_
  refine g_iconst (pc := 331) B dL_step_331 (5 : Int32) (by decide) ?_
  obtain ⟨c332, h⟩ := chk h
  refine gp_iald (pc := 332) (P := X) B hap c332 dL_step_332 ?_
  refine g_icmp_ne (pc := 333) (tgt := 340) B dL_step_333 (by decide) (fun c333 => ?_) (fun c333 => ?_)
  · rw [if_neg c333] at h
    refine g_iconst (pc := 340) B dL_step_340 (0 : Int32) (by decide) ?_
    obtain rfl := Option.some.inj h
    exact g_ret_Z (pc := 341) B rfl (Or.inl rfl) (by decide) (by decide) dL_step_341
  · rw [if_pos c333] at h
    refine g_iconst (pc := 336) B dL_step_336 (1 : Int32) (by decide) ?_
    refine g_goto (pc := 337) (tgt := 341) B dL_step_337 (by decide) ?_
    obtain rfl := Option.some.inj h
    exact g_ret_Z (pc := 341) B rfl (Or.inr rfl) (by decide) (by decide) dL_step_341
set_option maxRecDepth 100000 in
set_option maxHeartbeats 4000000 in
theorem cb_L_step_L306 {D : DD} {ev : EV} {X0 : LwP} {fu : Nat} {X : LwP} {x0 : Nat} {x1 : Nat} {x3 : Nat} {x5 : Int32} {x6 : Int32} {r : Int32 × LwP} (B : Amb D (foot (lM X0)) ev RL "step" cL_step 12 (some .boolean) rmL_step) (ht : Tb0 ev) (hap : apM X.1 X.2)  (h : fL_step_L306 fu X x0 x1 x3 x5 x6 = some r) : Gd D (foot (lM X0)) ev (QF D ev (lM X0) (.inr (some (vI r.1))) (lM r.2) rmL_step) (lM X) 0 0 306 [(0, vA (some x0)), (1, vA (some x1)), (3, vA (some x3)), (5, vI x5), (6, vI x6)] [] := by
  unfold fL_step_L306 at h
  refine g_aload_n (pc := 306) B dL_step_306 1 rfl ?_
  refine g_iconst (pc := 307) B dL_step_307 (3 : Int32) (by decide) ?_
  obtain ⟨c308, h⟩ := chk h
  refine gp_iald (pc := 308) (P := X) B hap c308 dL_step_308 ?_
  refine g_if_eq (pc := 309) (tgt := 326) B dL_step_309 (by decide) (fun c309 => ?_) (fun c309 => ?_)
  · rw [if_pos c309] at h
    refine g_sub (pc := 326) [0, 1] rfl ?_
    exact cb_L_step_L326 B ht hap h
  · rw [if_neg c309] at h
    refine g_aload_n (pc := 312) B dL_step_312 1 rfl ?_
    refine g_iconst (pc := 313) B dL_step_313 (4 : Int32) (by decide) ?_
    obtain ⟨c314, h⟩ := chk h
    refine gp_iald (pc := 314) (P := X) B hap c314 dL_step_314 ?_
    refine g_if_eq (pc := 315) (tgt := 326) B dL_step_315 (by decide) (fun c315 => ?_) (fun c315 => ?_)
    · rw [if_pos c315] at h
      refine g_sub (pc := 326) [0, 1] rfl ?_
      exact cb_L_step_L326 B ht hap h
    · rw [if_neg c315] at h
      refine g_aload_n (pc := 318) B dL_step_318 1 rfl ?_
      refine g_iconst (pc := 319) B dL_step_319 (5 : Int32) (by decide) ?_
      obtain ⟨c320, h⟩ := chk h
      refine gp_iald (pc := 320) (P := X) B hap c320 dL_step_320 ?_
      refine g_bipush (pc := 321) B dL_step_321 (10 : Int32) (by decide) ?_
      refine g_icmp_ne (pc := 323) (tgt := 342) B dL_step_323 (by decide) (fun c323 => ?_) (fun c323 => ?_)
      · rw [if_neg c323] at h
        refine g_aload_n (pc := 342) B dL_step_342 2 rfl ?_
        refine g_bipush (pc := 343) B dL_step_343 (12 : Int32) (by decide) ?_
        refine g_aload_n (pc := 345) B dL_step_345 1 rfl ?_
        refine g_iconst (pc := 346) B dL_step_346 (5 : Int32) (by decide) ?_
        obtain ⟨c347, h⟩ := chk h
        refine gp_iald (pc := 347) (P := X) B hap c347 dL_step_347 ?_
        refine g_iadd (pc := 348) B dL_step_348 ?_
        refine g_iload (pc := 349) B dL_step_349 3 rfl ?_
        refine g_aload_n (pc := 351) B dL_step_351 1 rfl ?_
        refine g_iconst (pc := 352) B dL_step_352 (3 : Int32) (by decide) ?_
        obtain ⟨c353, h⟩ := chk h
        refine gp_iald (pc := 353) (P := X) B hap c353 dL_step_353 ?_
        obtain ⟨c354, h⟩ := chkN h
        refine g_irem (pc := 354) B dL_step_354 c354 ?_
        obtain ⟨c355, h⟩ := chk h
        refine gp_iast (pc := 355) (P := X) B hap c355 dL_step_355 ?_
        refine g_aload_n (pc := 356) B dL_step_356 2 rfl ?_
        refine g_bipush (pc := 357) B dL_step_357 (22 : Int32) (by decide) ?_
        refine g_aload_n (pc := 359) B dL_step_359 1 rfl ?_
        refine g_iconst (pc := 360) B dL_step_360 (5 : Int32) (by decide) ?_
        obtain ⟨c361, h⟩ := chk h
        refine gp_iald (pc := 361) (P := (X.1, (sI X.2 x3 ((12 : Int32) + (aI X.2 x1 (5 : Int32).toNatClampNeg)).toNatClampNeg (x5 - x5 / (aI X.2 x1 (3 : Int32).toNatClampNeg) * (aI X.2 x1 (3 : Int32).toNatClampNeg))))) B hap c361 dL_step_361 ?_
        refine g_iadd (pc := 362) B dL_step_362 ?_
        refine g_iload (pc := 363) B dL_step_363 4 rfl ?_
        refine g_aload_n (pc := 365) B dL_step_365 1 rfl ?_
        refine g_iconst (pc := 366) B dL_step_366 (4 : Int32) (by decide) ?_
        obtain ⟨c367, h⟩ := chk h
        refine gp_iald (pc := 367) (P := (X.1, (sI X.2 x3 ((12 : Int32) + (aI X.2 x1 (5 : Int32).toNatClampNeg)).toNatClampNeg (x5 - x5 / (aI X.2 x1 (3 : Int32).toNatClampNeg) * (aI X.2 x1 (3 : Int32).toNatClampNeg))))) B hap c367 dL_step_367 ?_
        obtain ⟨c368, h⟩ := chkN h
        refine g_irem (pc := 368) B dL_step_368 c368 ?_
        obtain ⟨c369, h⟩ := chk h
        refine gp_iast (pc := 369) (P := (X.1, (sI X.2 x3 ((12 : Int32) + (aI X.2 x1 (5 : Int32).toNatClampNeg)).toNatClampNeg (x5 - x5 / (aI X.2 x1 (3 : Int32).toNatClampNeg) * (aI X.2 x1 (3 : Int32).toNatClampNeg))))) B hap c369 dL_step_369 ?_
        refine g_aload_n (pc := 370) B dL_step_370 1 rfl ?_
        refine g_iconst (pc := 371) B dL_step_371 (5 : Int32) (by decide) ?_
        refine g_dup2 (pc := 372) B dL_step_372 rfl rfl ?_
        obtain ⟨c373, h⟩ := chk h
        refine gp_iald (pc := 373) (P := (X.1, (sI (sI X.2 x3 ((12 : Int32) + (aI X.2 x1 (5 : Int32).toNatClampNeg)).toNatClampNeg (x5 - x5 / (aI X.2 x1 (3 : Int32).toNatClampNeg) * (aI X.2 x1 (3 : Int32).toNatClampNeg))) x3 ((22 : Int32) + (aI (sI X.2 x3 ((12 : Int32) + (aI X.2 x1 (5 : Int32).toNatClampNeg)).toNatClampNeg (x5 - x5 / (aI X.2 x1 (3 : Int32).toNatClampNeg) * (aI X.2 x1 (3 : Int32).toNatClampNeg))) x1 (5 : Int32).toNatClampNeg)).toNatClampNeg (x6 - x6 / (aI (sI X.2 x3 ((12 : Int32) + (aI X.2 x1 (5 : Int32).toNatClampNeg)).toNatClampNeg (x5 - x5 / (aI X.2 x1 (3 : Int32).toNatClampNeg) * (aI X.2 x1 (3 : Int32).toNatClampNeg))) x1 (4 : Int32).toNatClampNeg) * (aI (sI X.2 x3 ((12 : Int32) + (aI X.2 x1 (5 : Int32).toNatClampNeg)).toNatClampNeg (x5 - x5 / (aI X.2 x1 (3 : Int32).toNatClampNeg) * (aI X.2 x1 (3 : Int32).toNatClampNeg))) x1 (4 : Int32).toNatClampNeg))))) B hap c373 dL_step_373 ?_
        refine g_iconst (pc := 374) B dL_step_374 (1 : Int32) (by decide) ?_
        refine g_iadd (pc := 375) B dL_step_375 ?_
        obtain ⟨c376, h⟩ := chk h
        refine gp_iast (pc := 376) (P := (X.1, (sI (sI X.2 x3 ((12 : Int32) + (aI X.2 x1 (5 : Int32).toNatClampNeg)).toNatClampNeg (x5 - x5 / (aI X.2 x1 (3 : Int32).toNatClampNeg) * (aI X.2 x1 (3 : Int32).toNatClampNeg))) x3 ((22 : Int32) + (aI (sI X.2 x3 ((12 : Int32) + (aI X.2 x1 (5 : Int32).toNatClampNeg)).toNatClampNeg (x5 - x5 / (aI X.2 x1 (3 : Int32).toNatClampNeg) * (aI X.2 x1 (3 : Int32).toNatClampNeg))) x1 (5 : Int32).toNatClampNeg)).toNatClampNeg (x6 - x6 / (aI (sI X.2 x3 ((12 : Int32) + (aI X.2 x1 (5 : Int32).toNatClampNeg)).toNatClampNeg (x5 - x5 / (aI X.2 x1 (3 : Int32).toNatClampNeg) * (aI X.2 x1 (3 : Int32).toNatClampNeg))) x1 (4 : Int32).toNatClampNeg) * (aI (sI X.2 x3 ((12 : Int32) + (aI X.2 x1 (5 : Int32).toNatClampNeg)).toNatClampNeg (x5 - x5 / (aI X.2 x1 (3 : Int32).toNatClampNeg) * (aI X.2 x1 (3 : Int32).toNatClampNeg))) x1 (4 : Int32).toNatClampNeg))))) B hap c376 dL_step_376 ?_
        refine g_aload_n (pc := 377) B dL_step_377 0 rfl ?_
        refine g_iload (pc := 378) B dL_step_378 3 rfl ?_
        refine g_aload_n (pc := 380) B dL_step_380 1 rfl ?_
        refine g_iconst (pc := 381) B dL_step_381 (3 : Int32) (by decide) ?_
        obtain ⟨c382, h⟩ := chk h
        refine gp_iald (pc := 382) (P := (X.1, (sI (sI (sI X.2 x3 ((12 : Int32) + (aI X.2 x1 (5 : Int32).toNatClampNeg)).toNatClampNeg (x5 - x5 / (aI X.2 x1 (3 : Int32).toNatClampNeg) * (aI X.2 x1 (3 : Int32).toNatClampNeg))) x3 ((22 : Int32) + (aI (sI X.2 x3 ((12 : Int32) + (aI X.2 x1 (5 : Int32).toNatClampNeg)).toNatClampNeg (x5 - x5 / (aI X.2 x1 (3 : Int32).toNatClampNeg) * (aI X.2 x1 (3 : Int32).toNatClampNeg))) x1 (5 : Int32).toNatClampNeg)).toNatClampNeg (x6 - x6 / (aI (sI X.2 x3 ((12 : Int32) + (aI X.2 x1 (5 : Int32).toNatClampNeg)).toNatClampNeg (x5 - x5 / (aI X.2 x1 (3 : Int32).toNatClampNeg) * (aI X.2 x1 (3 : Int32).toNatClampNeg))) x1 (4 : Int32).toNatClampNeg) * (aI (sI X.2 x3 ((12 : Int32) + (aI X.2 x1 (5 : Int32).toNatClampNeg)).toNatClampNeg (x5 - x5 / (aI X.2 x1 (3 : Int32).toNatClampNeg) * (aI X.2 x1 (3 : Int32).toNatClampNeg))) x1 (4 : Int32).toNatClampNeg))) x1 (5 : Int32).toNatClampNeg ((aI (sI (sI X.2 x3 ((12 : Int32) + (aI X.2 x1 (5 : Int32).toNatClampNeg)).toNatClampNeg (x5 - x5 / (aI X.2 x1 (3 : Int32).toNatClampNeg) * (aI X.2 x1 (3 : Int32).toNatClampNeg))) x3 ((22 : Int32) + (aI (sI X.2 x3 ((12 : Int32) + (aI X.2 x1 (5 : Int32).toNatClampNeg)).toNatClampNeg (x5 - x5 / (aI X.2 x1 (3 : Int32).toNatClampNeg) * (aI X.2 x1 (3 : Int32).toNatClampNeg))) x1 (5 : Int32).toNatClampNeg)).toNatClampNeg (x6 - x6 / (aI (sI X.2 x3 ((12 : Int32) + (aI X.2 x1 (5 : Int32).toNatClampNeg)).toNatClampNeg (x5 - x5 / (aI X.2 x1 (3 : Int32).toNatClampNeg) * (aI X.2 x1 (3 : Int32).toNatClampNeg))) x1 (4 : Int32).toNatClampNeg) * (aI (sI X.2 x3 ((12 : Int32) + (aI X.2 x1 (5 : Int32).toNatClampNeg)).toNatClampNeg (x5 - x5 / (aI X.2 x1 (3 : Int32).toNatClampNeg) * (aI X.2 x1 (3 : Int32).toNatClampNeg))) x1 (4 : Int32).toNatClampNeg))) x1 (5 : Int32).toNatClampNeg) + (1 : Int32))))) B hap c382 dL_step_382 ?_
        obtain ⟨c383, h⟩ := chkN h
        refine g_irem (pc := 383) B dL_step_383 c383 ?_
        refine g_iload (pc := 384) B dL_step_384 4 rfl ?_
        refine g_aload_n (pc := 386) B dL_step_386 1 rfl ?_
        refine g_iconst (pc := 387) B dL_step_387 (4 : Int32) (by decide) ?_
        obtain ⟨c388, h⟩ := chk h
        refine gp_iald (pc := 388) (P := (X.1, (sI (sI (sI X.2 x3 ((12 : Int32) + (aI X.2 x1 (5 : Int32).toNatClampNeg)).toNatClampNeg (x5 - x5 / (aI X.2 x1 (3 : Int32).toNatClampNeg) * (aI X.2 x1 (3 : Int32).toNatClampNeg))) x3 ((22 : Int32) + (aI (sI X.2 x3 ((12 : Int32) + (aI X.2 x1 (5 : Int32).toNatClampNeg)).toNatClampNeg (x5 - x5 / (aI X.2 x1 (3 : Int32).toNatClampNeg) * (aI X.2 x1 (3 : Int32).toNatClampNeg))) x1 (5 : Int32).toNatClampNeg)).toNatClampNeg (x6 - x6 / (aI (sI X.2 x3 ((12 : Int32) + (aI X.2 x1 (5 : Int32).toNatClampNeg)).toNatClampNeg (x5 - x5 / (aI X.2 x1 (3 : Int32).toNatClampNeg) * (aI X.2 x1 (3 : Int32).toNatClampNeg))) x1 (4 : Int32).toNatClampNeg) * (aI (sI X.2 x3 ((12 : Int32) + (aI X.2 x1 (5 : Int32).toNatClampNeg)).toNatClampNeg (x5 - x5 / (aI X.2 x1 (3 : Int32).toNatClampNeg) * (aI X.2 x1 (3 : Int32).toNatClampNeg))) x1 (4 : Int32).toNatClampNeg))) x1 (5 : Int32).toNatClampNeg ((aI (sI (sI X.2 x3 ((12 : Int32) + (aI X.2 x1 (5 : Int32).toNatClampNeg)).toNatClampNeg (x5 - x5 / (aI X.2 x1 (3 : Int32).toNatClampNeg) * (aI X.2 x1 (3 : Int32).toNatClampNeg))) x3 ((22 : Int32) + (aI (sI X.2 x3 ((12 : Int32) + (aI X.2 x1 (5 : Int32).toNatClampNeg)).toNatClampNeg (x5 - x5 / (aI X.2 x1 (3 : Int32).toNatClampNeg) * (aI X.2 x1 (3 : Int32).toNatClampNeg))) x1 (5 : Int32).toNatClampNeg)).toNatClampNeg (x6 - x6 / (aI (sI X.2 x3 ((12 : Int32) + (aI X.2 x1 (5 : Int32).toNatClampNeg)).toNatClampNeg (x5 - x5 / (aI X.2 x1 (3 : Int32).toNatClampNeg) * (aI X.2 x1 (3 : Int32).toNatClampNeg))) x1 (4 : Int32).toNatClampNeg) * (aI (sI X.2 x3 ((12 : Int32) + (aI X.2 x1 (5 : Int32).toNatClampNeg)).toNatClampNeg (x5 - x5 / (aI X.2 x1 (3 : Int32).toNatClampNeg) * (aI X.2 x1 (3 : Int32).toNatClampNeg))) x1 (4 : Int32).toNatClampNeg))) x1 (5 : Int32).toNatClampNeg) + (1 : Int32))))) B hap c388 dL_step_388 ?_
        obtain ⟨c389, h⟩ := chkN h
        refine g_irem (pc := 389) B dL_step_389 c389 ?_
        obtain ⟨k390_1, h⟩ := chk h
        obtain ⟨v390, X390, e390, h⟩ := nTW_s h
        obtain ⟨P390, eP390, h⟩ := ob h
        obtain ⟨hap390, h⟩ := apC_s h
        refine p_callVW (pc := 390) (P := (X.1, (sI (sI (sI X.2 x3 ((12 : Int32) + (aI X.2 x1 (5 : Int32).toNatClampNeg)).toNatClampNeg (x5 - x5 / (aI X.2 x1 (3 : Int32).toNatClampNeg) * (aI X.2 x1 (3 : Int32).toNatClampNeg))) x3 ((22 : Int32) + (aI (sI X.2 x3 ((12 : Int32) + (aI X.2 x1 (5 : Int32).toNatClampNeg)).toNatClampNeg (x5 - x5 / (aI X.2 x1 (3 : Int32).toNatClampNeg) * (aI X.2 x1 (3 : Int32).toNatClampNeg))) x1 (5 : Int32).toNatClampNeg)).toNatClampNeg (x6 - x6 / (aI (sI X.2 x3 ((12 : Int32) + (aI X.2 x1 (5 : Int32).toNatClampNeg)).toNatClampNeg (x5 - x5 / (aI X.2 x1 (3 : Int32).toNatClampNeg) * (aI X.2 x1 (3 : Int32).toNatClampNeg))) x1 (4 : Int32).toNatClampNeg) * (aI (sI X.2 x3 ((12 : Int32) + (aI X.2 x1 (5 : Int32).toNatClampNeg)).toNatClampNeg (x5 - x5 / (aI X.2 x1 (3 : Int32).toNatClampNeg) * (aI X.2 x1 (3 : Int32).toNatClampNeg))) x1 (4 : Int32).toNatClampNeg))) x1 (5 : Int32).toNatClampNeg ((aI (sI (sI X.2 x3 ((12 : Int32) + (aI X.2 x1 (5 : Int32).toNatClampNeg)).toNatClampNeg (x5 - x5 / (aI X.2 x1 (3 : Int32).toNatClampNeg) * (aI X.2 x1 (3 : Int32).toNatClampNeg))) x3 ((22 : Int32) + (aI (sI X.2 x3 ((12 : Int32) + (aI X.2 x1 (5 : Int32).toNatClampNeg)).toNatClampNeg (x5 - x5 / (aI X.2 x1 (3 : Int32).toNatClampNeg) * (aI X.2 x1 (3 : Int32).toNatClampNeg))) x1 (5 : Int32).toNatClampNeg)).toNatClampNeg (x6 - x6 / (aI (sI X.2 x3 ((12 : Int32) + (aI X.2 x1 (5 : Int32).toNatClampNeg)).toNatClampNeg (x5 - x5 / (aI X.2 x1 (3 : Int32).toNatClampNeg) * (aI X.2 x1 (3 : Int32).toNatClampNeg))) x1 (4 : Int32).toNatClampNeg) * (aI (sI X.2 x3 ((12 : Int32) + (aI X.2 x1 (5 : Int32).toNatClampNeg)).toNatClampNeg (x5 - x5 / (aI X.2 x1 (3 : Int32).toNatClampNeg) * (aI X.2 x1 (3 : Int32).toNatClampNeg))) x1 (4 : Int32).toNatClampNeg))) x1 (5 : Int32).toNatClampNeg) + (1 : Int32))))) (As := [vI (x5 - x5 / (aI (sI (sI (sI X.2 x3 ((12 : Int32) + (aI X.2 x1 (5 : Int32).toNatClampNeg)).toNatClampNeg (x5 - x5 / (aI X.2 x1 (3 : Int32).toNatClampNeg) * (aI X.2 x1 (3 : Int32).toNatClampNeg))) x3 ((22 : Int32) + (aI (sI X.2 x3 ((12 : Int32) + (aI X.2 x1 (5 : Int32).toNatClampNeg)).toNatClampNeg (x5 - x5 / (aI X.2 x1 (3 : Int32).toNatClampNeg) * (aI X.2 x1 (3 : Int32).toNatClampNeg))) x1 (5 : Int32).toNatClampNeg)).toNatClampNeg (x6 - x6 / (aI (sI X.2 x3 ((12 : Int32) + (aI X.2 x1 (5 : Int32).toNatClampNeg)).toNatClampNeg (x5 - x5 / (aI X.2 x1 (3 : Int32).toNatClampNeg) * (aI X.2 x1 (3 : Int32).toNatClampNeg))) x1 (4 : Int32).toNatClampNeg) * (aI (sI X.2 x3 ((12 : Int32) + (aI X.2 x1 (5 : Int32).toNatClampNeg)).toNatClampNeg (x5 - x5 / (aI X.2 x1 (3 : Int32).toNatClampNeg) * (aI X.2 x1 (3 : Int32).toNatClampNeg))) x1 (4 : Int32).toNatClampNeg))) x1 (5 : Int32).toNatClampNeg ((aI (sI (sI X.2 x3 ((12 : Int32) + (aI X.2 x1 (5 : Int32).toNatClampNeg)).toNatClampNeg (x5 - x5 / (aI X.2 x1 (3 : Int32).toNatClampNeg) * (aI X.2 x1 (3 : Int32).toNatClampNeg))) x3 ((22 : Int32) + (aI (sI X.2 x3 ((12 : Int32) + (aI X.2 x1 (5 : Int32).toNatClampNeg)).toNatClampNeg (x5 - x5 / (aI X.2 x1 (3 : Int32).toNatClampNeg) * (aI X.2 x1 (3 : Int32).toNatClampNeg))) x1 (5 : Int32).toNatClampNeg)).toNatClampNeg (x6 - x6 / (aI (sI X.2 x3 ((12 : Int32) + (aI X.2 x1 (5 : Int32).toNatClampNeg)).toNatClampNeg (x5 - x5 / (aI X.2 x1 (3 : Int32).toNatClampNeg) * (aI X.2 x1 (3 : Int32).toNatClampNeg))) x1 (4 : Int32).toNatClampNeg) * (aI (sI X.2 x3 ((12 : Int32) + (aI X.2 x1 (5 : Int32).toNatClampNeg)).toNatClampNeg (x5 - x5 / (aI X.2 x1 (3 : Int32).toNatClampNeg) * (aI X.2 x1 (3 : Int32).toNatClampNeg))) x1 (4 : Int32).toNatClampNeg))) x1 (5 : Int32).toNatClampNeg) + (1 : Int32))) x1 (3 : Int32).toNatClampNeg) * (aI (sI (sI (sI X.2 x3 ((12 : Int32) + (aI X.2 x1 (5 : Int32).toNatClampNeg)).toNatClampNeg (x5 - x5 / (aI X.2 x1 (3 : Int32).toNatClampNeg) * (aI X.2 x1 (3 : Int32).toNatClampNeg))) x3 ((22 : Int32) + (aI (sI X.2 x3 ((12 : Int32) + (aI X.2 x1 (5 : Int32).toNatClampNeg)).toNatClampNeg (x5 - x5 / (aI X.2 x1 (3 : Int32).toNatClampNeg) * (aI X.2 x1 (3 : Int32).toNatClampNeg))) x1 (5 : Int32).toNatClampNeg)).toNatClampNeg (x6 - x6 / (aI (sI X.2 x3 ((12 : Int32) + (aI X.2 x1 (5 : Int32).toNatClampNeg)).toNatClampNeg (x5 - x5 / (aI X.2 x1 (3 : Int32).toNatClampNeg) * (aI X.2 x1 (3 : Int32).toNatClampNeg))) x1 (4 : Int32).toNatClampNeg) * (aI (sI X.2 x3 ((12 : Int32) + (aI X.2 x1 (5 : Int32).toNatClampNeg)).toNatClampNeg (x5 - x5 / (aI X.2 x1 (3 : Int32).toNatClampNeg) * (aI X.2 x1 (3 : Int32).toNatClampNeg))) x1 (4 : Int32).toNatClampNeg))) x1 (5 : Int32).toNatClampNeg ((aI (sI (sI X.2 x3 ((12 : Int32) + (aI X.2 x1 (5 : Int32).toNatClampNeg)).toNatClampNeg (x5 - x5 / (aI X.2 x1 (3 : Int32).toNatClampNeg) * (aI X.2 x1 (3 : Int32).toNatClampNeg))) x3 ((22 : Int32) + (aI (sI X.2 x3 ((12 : Int32) + (aI X.2 x1 (5 : Int32).toNatClampNeg)).toNatClampNeg (x5 - x5 / (aI X.2 x1 (3 : Int32).toNatClampNeg) * (aI X.2 x1 (3 : Int32).toNatClampNeg))) x1 (5 : Int32).toNatClampNeg)).toNatClampNeg (x6 - x6 / (aI (sI X.2 x3 ((12 : Int32) + (aI X.2 x1 (5 : Int32).toNatClampNeg)).toNatClampNeg (x5 - x5 / (aI X.2 x1 (3 : Int32).toNatClampNeg) * (aI X.2 x1 (3 : Int32).toNatClampNeg))) x1 (4 : Int32).toNatClampNeg) * (aI (sI X.2 x3 ((12 : Int32) + (aI X.2 x1 (5 : Int32).toNatClampNeg)).toNatClampNeg (x5 - x5 / (aI X.2 x1 (3 : Int32).toNatClampNeg) * (aI X.2 x1 (3 : Int32).toNatClampNeg))) x1 (4 : Int32).toNatClampNeg))) x1 (5 : Int32).toNatClampNeg) + (1 : Int32))) x1 (3 : Int32).toNatClampNeg)), vI (x6 - x6 / (aI (sI (sI (sI X.2 x3 ((12 : Int32) + (aI X.2 x1 (5 : Int32).toNatClampNeg)).toNatClampNeg (x5 - x5 / (aI X.2 x1 (3 : Int32).toNatClampNeg) * (aI X.2 x1 (3 : Int32).toNatClampNeg))) x3 ((22 : Int32) + (aI (sI X.2 x3 ((12 : Int32) + (aI X.2 x1 (5 : Int32).toNatClampNeg)).toNatClampNeg (x5 - x5 / (aI X.2 x1 (3 : Int32).toNatClampNeg) * (aI X.2 x1 (3 : Int32).toNatClampNeg))) x1 (5 : Int32).toNatClampNeg)).toNatClampNeg (x6 - x6 / (aI (sI X.2 x3 ((12 : Int32) + (aI X.2 x1 (5 : Int32).toNatClampNeg)).toNatClampNeg (x5 - x5 / (aI X.2 x1 (3 : Int32).toNatClampNeg) * (aI X.2 x1 (3 : Int32).toNatClampNeg))) x1 (4 : Int32).toNatClampNeg) * (aI (sI X.2 x3 ((12 : Int32) + (aI X.2 x1 (5 : Int32).toNatClampNeg)).toNatClampNeg (x5 - x5 / (aI X.2 x1 (3 : Int32).toNatClampNeg) * (aI X.2 x1 (3 : Int32).toNatClampNeg))) x1 (4 : Int32).toNatClampNeg))) x1 (5 : Int32).toNatClampNeg ((aI (sI (sI X.2 x3 ((12 : Int32) + (aI X.2 x1 (5 : Int32).toNatClampNeg)).toNatClampNeg (x5 - x5 / (aI X.2 x1 (3 : Int32).toNatClampNeg) * (aI X.2 x1 (3 : Int32).toNatClampNeg))) x3 ((22 : Int32) + (aI (sI X.2 x3 ((12 : Int32) + (aI X.2 x1 (5 : Int32).toNatClampNeg)).toNatClampNeg (x5 - x5 / (aI X.2 x1 (3 : Int32).toNatClampNeg) * (aI X.2 x1 (3 : Int32).toNatClampNeg))) x1 (5 : Int32).toNatClampNeg)).toNatClampNeg (x6 - x6 / (aI (sI X.2 x3 ((12 : Int32) + (aI X.2 x1 (5 : Int32).toNatClampNeg)).toNatClampNeg (x5 - x5 / (aI X.2 x1 (3 : Int32).toNatClampNeg) * (aI X.2 x1 (3 : Int32).toNatClampNeg))) x1 (4 : Int32).toNatClampNeg) * (aI (sI X.2 x3 ((12 : Int32) + (aI X.2 x1 (5 : Int32).toNatClampNeg)).toNatClampNeg (x5 - x5 / (aI X.2 x1 (3 : Int32).toNatClampNeg) * (aI X.2 x1 (3 : Int32).toNatClampNeg))) x1 (4 : Int32).toNatClampNeg))) x1 (5 : Int32).toNatClampNeg) + (1 : Int32))) x1 (4 : Int32).toNatClampNeg) * (aI (sI (sI (sI X.2 x3 ((12 : Int32) + (aI X.2 x1 (5 : Int32).toNatClampNeg)).toNatClampNeg (x5 - x5 / (aI X.2 x1 (3 : Int32).toNatClampNeg) * (aI X.2 x1 (3 : Int32).toNatClampNeg))) x3 ((22 : Int32) + (aI (sI X.2 x3 ((12 : Int32) + (aI X.2 x1 (5 : Int32).toNatClampNeg)).toNatClampNeg (x5 - x5 / (aI X.2 x1 (3 : Int32).toNatClampNeg) * (aI X.2 x1 (3 : Int32).toNatClampNeg))) x1 (5 : Int32).toNatClampNeg)).toNatClampNeg (x6 - x6 / (aI (sI X.2 x3 ((12 : Int32) + (aI X.2 x1 (5 : Int32).toNatClampNeg)).toNatClampNeg (x5 - x5 / (aI X.2 x1 (3 : Int32).toNatClampNeg) * (aI X.2 x1 (3 : Int32).toNatClampNeg))) x1 (4 : Int32).toNatClampNeg) * (aI (sI X.2 x3 ((12 : Int32) + (aI X.2 x1 (5 : Int32).toNatClampNeg)).toNatClampNeg (x5 - x5 / (aI X.2 x1 (3 : Int32).toNatClampNeg) * (aI X.2 x1 (3 : Int32).toNatClampNeg))) x1 (4 : Int32).toNatClampNeg))) x1 (5 : Int32).toNatClampNeg ((aI (sI (sI X.2 x3 ((12 : Int32) + (aI X.2 x1 (5 : Int32).toNatClampNeg)).toNatClampNeg (x5 - x5 / (aI X.2 x1 (3 : Int32).toNatClampNeg) * (aI X.2 x1 (3 : Int32).toNatClampNeg))) x3 ((22 : Int32) + (aI (sI X.2 x3 ((12 : Int32) + (aI X.2 x1 (5 : Int32).toNatClampNeg)).toNatClampNeg (x5 - x5 / (aI X.2 x1 (3 : Int32).toNatClampNeg) * (aI X.2 x1 (3 : Int32).toNatClampNeg))) x1 (5 : Int32).toNatClampNeg)).toNatClampNeg (x6 - x6 / (aI (sI X.2 x3 ((12 : Int32) + (aI X.2 x1 (5 : Int32).toNatClampNeg)).toNatClampNeg (x5 - x5 / (aI X.2 x1 (3 : Int32).toNatClampNeg) * (aI X.2 x1 (3 : Int32).toNatClampNeg))) x1 (4 : Int32).toNatClampNeg) * (aI (sI X.2 x3 ((12 : Int32) + (aI X.2 x1 (5 : Int32).toNatClampNeg)).toNatClampNeg (x5 - x5 / (aI X.2 x1 (3 : Int32).toNatClampNeg) * (aI X.2 x1 (3 : Int32).toNatClampNeg))) x1 (4 : Int32).toNatClampNeg))) x1 (5 : Int32).toNatClampNeg) + (1 : Int32))) x1 (4 : Int32).toNatClampNeg))]) (st := []) (st10 := [vI v390]) (cs' := 1) (sl' := 7) B cal_X11_handIn kmL_37 kn_X11_handIn ks_X11_handIn hap k390_1 rfl (fun l hl => ct_X11_handIn hl e390) eP390 rfl (Nat.le_of_ble_eq_true rfl) (by decide) (by decide) dL_step_390 rfl rfl rfl rfl ?_
        refine g_aload_n (pc := 393) B dL_step_393 1 rfl ?_
        refine g_iconst (pc := 394) B dL_step_394 (5 : Int32) (by decide) ?_
        obtain ⟨c395, h⟩ := chk h
        refine gp_iald (pc := 395) (P := P390) B hap390 c395 dL_step_395 ?_
        refine g_iconst (pc := 396) B dL_step_396 (1 : Int32) (by decide) ?_
        refine g_isub (pc := 397) B dL_step_397 ?_
        refine g_icmp_ne (pc := 398) (tgt := 405) B dL_step_398 (by decide) (fun c398 => ?_) (fun c398 => ?_)
        · rw [if_neg c398] at h
          refine g_iconst (pc := 405) B dL_step_405 (0 : Int32) (by decide) ?_
          obtain rfl := Option.some.inj h
          exact g_ret_Z (pc := 406) B rfl (Or.inl rfl) (by decide) (by decide) dL_step_406
        · rw [if_pos c398] at h
          refine g_iconst (pc := 401) B dL_step_401 (1 : Int32) (by decide) ?_
          refine g_goto (pc := 402) (tgt := 406) B dL_step_402 (by decide) ?_
          obtain rfl := Option.some.inj h
          exact g_ret_Z (pc := 406) B rfl (Or.inr rfl) (by decide) (by decide) dL_step_406
      · rw [if_pos c323] at h
        refine g_sub (pc := 326) [0, 1] rfl ?_
        exact cb_L_step_L326 B ht hap h
set_option maxRecDepth 100000 in
set_option maxHeartbeats 4000000 in
theorem cb_L_step_L486 {D : DD} {ev : EV} {X0 : LwP} {fu : Nat} {X : LwP} {x8 : Int32} {s0 : Nat} {s1 : Int32} {s2 : Int32} {r : Int32 × LwP} (B : Amb D (foot (lM X0)) ev RL "step" cL_step 12 (some .boolean) rmL_step) (ht : Tb0 ev) (hap : apM X.1 X.2)  (h : fL_step_L486 fu X x8 s0 s1 s2 = some r) : Gd D (foot (lM X0)) ev (QF D ev (lM X0) (.inr (some (vI r.1))) (lM r.2) rmL_step) (lM X) 0 0 486 [(8, vI x8)] [vI s2, vI s1, vA (some s0)] := by
  unfold fL_step_L486 at h
  obtain ⟨k486_1, h⟩ := chk h
  obtain ⟨v486, X486, e486, h⟩ := nTW_s h
  obtain ⟨P486, eP486, h⟩ := ob h
  obtain ⟨hap486, h⟩ := apC_s h
  refine p_callVW (pc := 486) (P := X) (As := [vI s1, vI s2]) (st := []) (st10 := [vI v486]) (cs' := 0) (sl' := 0) B cal_X11_clear kmL_41 kn_X11_clear ks_X11_clear hap k486_1 rfl (fun l hl => ct_X11_clear hl e486) eP486 rfl (Nat.le_of_ble_eq_true rfl) (by decide) (by decide) dL_step_486 rfl rfl rfl rfl ?_
  refine g_iload (pc := 489) B dL_step_489 0 rfl ?_
  refine g_icmp_ne (pc := 491) (tgt := 498) B dL_step_491 (by decide) (fun c491 => ?_) (fun c491 => ?_)
  · rw [if_neg c491] at h
    refine g_iconst (pc := 498) B dL_step_498 (0 : Int32) (by decide) ?_
    obtain rfl := Option.some.inj h
    exact g_ret_Z (pc := 499) B rfl (Or.inl rfl) (by decide) (by decide) dL_step_499
  · rw [if_pos c491] at h
    refine g_iconst (pc := 494) B dL_step_494 (1 : Int32) (by decide) ?_
    refine g_goto (pc := 495) (tgt := 499) B dL_step_495 (by decide) ?_
    obtain rfl := Option.some.inj h
    exact g_ret_Z (pc := 499) B rfl (Or.inr rfl) (by decide) (by decide) dL_step_499
set_option maxRecDepth 100000 in
set_option maxHeartbeats 4000000 in
theorem cb_L_step_L463 {D : DD} {ev : EV} {X0 : LwP} {fu : Nat} {X : LwP} {x0 : Nat} {x1 : Nat} {x6 : Int32} {x7 : Int32} {x8 : Int32} {s0 : Nat} {s1 : Int32} {s2 : Int32} {r : Int32 × LwP} (B : Amb D (foot (lM X0)) ev RL "step" cL_step 12 (some .boolean) rmL_step) (ht : Tb0 ev) (hap : apM X.1 X.2)  (h : fL_step_L463 fu X x0 x1 x6 x7 x8 s0 s1 s2 = some r) : Gd D (foot (lM X0)) ev (QF D ev (lM X0) (.inr (some (vI r.1))) (lM r.2) rmL_step) (lM X) 0 0 463 [(0, vA (some x0)), (1, vA (some x1)), (6, vI x6), (7, vI x7), (8, vI x8)] [vI s2, vI s1, vA (some s0)] := by
  unfold fL_step_L463 at h
  obtain ⟨c463, h⟩ := chk h
  refine gp_iast (pc := 463) (P := X) B hap c463 dL_step_463 ?_
  refine g_aload_n (pc := 464) B dL_step_464 1 rfl ?_
  refine g_iconst (pc := 465) B dL_step_465 (5 : Int32) (by decide) ?_
  obtain ⟨c466, h⟩ := chk h
  refine gp_iald (pc := 466) (P := (X.1, (sI X.2 s0 s1.toNatClampNeg s2))) B hap c466 dL_step_466 ?_
  refine g_if_eq (pc := 467) (tgt := 494) B dL_step_467 (by decide) (fun c467 => ?_) (fun c467 => ?_)
  · rw [if_pos c467] at h
    refine g_iconst (pc := 494) B dL_step_494 (1 : Int32) (by decide) ?_
    refine g_goto (pc := 495) (tgt := 499) B dL_step_495 (by decide) ?_
    obtain rfl := Option.some.inj h
    exact g_ret_Z (pc := 499) B rfl (Or.inr rfl) (by decide) (by decide) dL_step_499
  · rw [if_neg c467] at h
    refine g_aload_n (pc := 470) B dL_step_470 0 rfl ?_
    refine g_iload (pc := 471) B dL_step_471 3 rfl ?_
    refine g_iload (pc := 473) B dL_step_473 2 rfl ?_
    refine g_iconst (pc := 475) B dL_step_475 (2 : Int32) (by decide) ?_
    refine g_irem (pc := 476) B dL_step_476 (by decide) ?_
    refine g_iconst (pc := 477) B dL_step_477 (1 : Int32) (by decide) ?_
    refine g_icmp_ne (pc := 478) (tgt := 485) B dL_step_478 (by decide) (fun c478 => ?_) (fun c478 => ?_)
    · rw [if_neg c478] at h
      refine g_iconst (pc := 485) B dL_step_485 (0 : Int32) (by decide) ?_
      refine g_sub (pc := 486) [4] rfl ?_
      exact cb_L_step_L486 B ht hap h
    · rw [if_pos c478] at h
      refine g_iconst (pc := 481) B dL_step_481 (1 : Int32) (by decide) ?_
      refine g_goto (pc := 482) (tgt := 486) B dL_step_482 (by decide) ?_
      refine g_sub (pc := 486) [4] rfl ?_
      exact cb_L_step_L486 B ht hap h
set_option maxRecDepth 100000 in
set_option maxHeartbeats 4000000 in
theorem cb_L_step_L441 {D : DD} {ev : EV} {X0 : LwP} {fu : Nat} {X : LwP} {x0 : Nat} {x1 : Nat} {x3 : Nat} {x6 : Int32} {x7 : Int32} {s0 : Int32} {r : Int32 × LwP} (B : Amb D (foot (lM X0)) ev RL "step" cL_step 12 (some .boolean) rmL_step) (ht : Tb0 ev) (hap : apM X.1 X.2)  (h : fL_step_L441 fu X x0 x1 x3 x6 x7 s0 = some r) : Gd D (foot (lM X0)) ev (QF D ev (lM X0) (.inr (some (vI r.1))) (lM r.2) rmL_step) (lM X) 0 0 441 [(0, vA (some x0)), (1, vA (some x1)), (3, vA (some x3)), (6, vI x6), (7, vI x7)] [vI s0] := by
  unfold fL_step_L441 at h
  refine g_istore (pc := 441) (L' := [(8, vI s0), (0, vA (some x0)), (1, vA (some x1)), (3, vA (some x3)), (6, vI x6), (7, vI x7)]) B dL_step_441 (by decide) rfl ?_
  refine g_aload_n (pc := 443) B dL_step_443 3 rfl ?_
  refine g_bipush (pc := 444) B dL_step_444 (32 : Int32) (by decide) ?_
  refine g_iload (pc := 446) B dL_step_446 5 rfl ?_
  refine g_iadd (pc := 448) B dL_step_448 ?_
  refine g_aload_n (pc := 449) B dL_step_449 2 rfl ?_
  refine g_iconst (pc := 450) B dL_step_450 (5 : Int32) (by decide) ?_
  obtain ⟨c451, h⟩ := chk h
  refine gp_iald (pc := 451) (P := X) B hap c451 dL_step_451 ?_
  refine g_if_ne (pc := 452) (tgt := 459) B dL_step_452 (by decide) (fun c452 => ?_) (fun c452 => ?_)
  · rw [if_neg c452] at h
    refine g_iload (pc := 459) B dL_step_459 4 rfl ?_
    refine g_iconst (pc := 461) B dL_step_461 (2 : Int32) (by decide) ?_
    refine g_irem (pc := 462) B dL_step_462 (by decide) ?_
    refine g_sub (pc := 463) [1, 2, 4, 5, 0] rfl ?_
    exact cb_L_step_L463 B ht hap h
  · rw [if_pos c452] at h
    refine g_iconst (pc := 455) B dL_step_455 (0 : Int32) (by decide) ?_
    refine g_goto (pc := 456) (tgt := 463) B dL_step_456 (by decide) ?_
    refine g_sub (pc := 463) [1, 2, 4, 5, 0] rfl ?_
    exact cb_L_step_L463 B ht hap h
set_option maxRecDepth 100000 in
set_option maxHeartbeats 4000000 in
theorem cb_L_step_L423 {D : DD} {ev : EV} {X0 : LwP} {fu : Nat} {X : LwP} {x0 : Nat} {x1 : Nat} {x3 : Nat} {x6 : Int32} {s0 : Int32} {r : Int32 × LwP} (B : Amb D (foot (lM X0)) ev RL "step" cL_step 12 (some .boolean) rmL_step) (ht : Tb0 ev) (hap : apM X.1 X.2)  (h : fL_step_L423 fu X x0 x1 x3 x6 s0 = some r) : Gd D (foot (lM X0)) ev (QF D ev (lM X0) (.inr (some (vI r.1))) (lM r.2) rmL_step) (lM X) 0 0 423 [(0, vA (some x0)), (1, vA (some x1)), (3, vA (some x3)), (6, vI x6)] [vI s0] := by
  unfold fL_step_L423 at h
  refine g_istore (pc := 423) (L' := [(7, vI s0), (0, vA (some x0)), (1, vA (some x1)), (3, vA (some x3)), (6, vI x6)]) B dL_step_423 (by decide) rfl ?_
  refine g_aload_n (pc := 425) B dL_step_425 3 rfl ?_
  refine g_bipush (pc := 426) B dL_step_426 (32 : Int32) (by decide) ?_
  refine g_iload (pc := 428) B dL_step_428 0 rfl ?_
  refine g_iadd (pc := 430) B dL_step_430 ?_
  obtain ⟨c431, h⟩ := chk h
  refine gp_iald (pc := 431) (P := X) B hap c431 dL_step_431 ?_
  refine g_iconst (pc := 432) B dL_step_432 (1 : Int32) (by decide) ?_
  refine g_icmp_ne (pc := 433) (tgt := 440) B dL_step_433 (by decide) (fun c433 => ?_) (fun c433 => ?_)
  · rw [if_neg c433] at h
    refine g_iconst (pc := 440) B dL_step_440 (0 : Int32) (by decide) ?_
    refine g_sub (pc := 441) [1, 2, 3, 4, 0] rfl ?_
    exact cb_L_step_L441 B ht hap h
  · rw [if_pos c433] at h
    refine g_iconst (pc := 436) B dL_step_436 (1 : Int32) (by decide) ?_
    refine g_goto (pc := 437) (tgt := 441) B dL_step_437 (by decide) ?_
    refine g_sub (pc := 441) [1, 2, 3, 4, 0] rfl ?_
    exact cb_L_step_L441 B ht hap h
set_option maxRecDepth 100000 in
set_option maxHeartbeats 4000000 in
theorem cb_L_step_L567 {D : DD} {ev : EV} {X0 : LwP} {fu : Nat} {rec542 : LwP → Nat → Nat → Int32 → Int32 → Int32 → Option (Int32 × LwP)} {X : LwP} {x0 : Nat} {x1 : Nat} {x10 : Int32} {x11 : Int32} {s0 : Int32} {s1 : Int32} {r : Int32 × LwP} (B : Amb D (foot (lM X0)) ev RL "step" cL_step 12 (some .boolean) rmL_step) (ht : Tb0 ev) (hap : apM X.1 X.2) (hrec542 : ∀ {X : LwP} {x0 : Nat} {x1 : Nat} {x9 : Int32} {x10 : Int32} {x11 : Int32} {r : Int32 × LwP}, apM X.1 X.2 → rec542 X x0 x1 x9 x10 x11 = some r → Gd D (foot (lM X0)) ev (QF D ev (lM X0) (.inr (some (vI r.1))) (lM r.2) rmL_step) (lM X) 0 0 542 [(0, vA (some x0)), (1, vA (some x1)), (9, vI x9), (10, vI x10), (11, vI x11)] []) (h : fL_step_L567 fu rec542 X x0 x1 x10 x11 s0 s1 = some r) : Gd D (foot (lM X0)) ev (QF D ev (lM X0) (.inr (some (vI r.1))) (lM r.2) rmL_step) (lM X) 0 0 567 [(0, vA (some x0)), (1, vA (some x1)), (10, vI x10), (11, vI x11)] [vI s1, vI s0] := by
  unfold fL_step_L567 at h
  refine g_iadd (pc := 567) B dL_step_567 ?_
  refine g_istore (pc := 568) (L' := [(9, vI (s0 + s1)), (0, vA (some x0)), (1, vA (some x1)), (10, vI x10), (11, vI x11)]) B dL_step_568 (by decide) rfl ?_
  refine g_iinc (pc := 570) (v := (x11 + (1 : Int32))) (L' := [(11, vI (x11 + (1 : Int32))), (9, vI (s0 + s1)), (0, vA (some x0)), (1, vA (some x1)), (10, vI x10)]) B dL_step_570 (by decide) 4 rfl rfl rfl ?_
  refine g_goto (pc := 573) (tgt := 542) B dL_step_573 (by decide) ?_
  refine g_sub (pc := 542) [2, 3, 1, 4, 0] rfl ?_
  exact hrec542 hap h
set_option maxRecDepth 100000 in
set_option maxHeartbeats 4000000 in
theorem cb_L_step_L542b {D : DD} {ev : EV} {X0 : LwP} {fu : Nat} {rec542 : LwP → Nat → Nat → Int32 → Int32 → Int32 → Option (Int32 × LwP)} {X : LwP} {x0 : Nat} {x1 : Nat} {x9 : Int32} {x10 : Int32} {x11 : Int32} {r : Int32 × LwP} (B : Amb D (foot (lM X0)) ev RL "step" cL_step 12 (some .boolean) rmL_step) (ht : Tb0 ev) (hap : apM X.1 X.2) (hrec542 : ∀ {X : LwP} {x0 : Nat} {x1 : Nat} {x9 : Int32} {x10 : Int32} {x11 : Int32} {r : Int32 × LwP}, apM X.1 X.2 → rec542 X x0 x1 x9 x10 x11 = some r → Gd D (foot (lM X0)) ev (QF D ev (lM X0) (.inr (some (vI r.1))) (lM r.2) rmL_step) (lM X) 0 0 542 [(0, vA (some x0)), (1, vA (some x1)), (9, vI x9), (10, vI x10), (11, vI x11)] []) (h : fL_step_L542b fu rec542 X x0 x1 x9 x10 x11 = some r) : Gd D (foot (lM X0)) ev (QF D ev (lM X0) (.inr (some (vI r.1))) (lM r.2) rmL_step) (lM X) 0 0 542 [(0, vA (some x0)), (1, vA (some x1)), (9, vI x9), (10, vI x10), (11, vI x11)] [] := by
  unfold fL_step_L542b at h
  refine g_iload (pc := 542) B dL_step_542 4 rfl ?_
  refine g_aload_n (pc := 544) B dL_step_544 1 rfl ?_
  refine g_iconst (pc := 545) B dL_step_545 (5 : Int32) (by decide) ?_
  obtain ⟨c546, h⟩ := chk h
  refine gp_iald (pc := 546) (P := X) B hap c546 dL_step_546 ?_
  refine g_icmp_ge (pc := 547) (tgt := 576) B dL_step_547 (by decide) (fun c547 => ?_) (fun c547 => ?_)
  · rw [if_pos c547] at h
    refine g_iload (pc := 576) B dL_step_576 3 rfl ?_
    refine g_iload (pc := 578) B dL_step_578 2 rfl ?_
    refine g_icmp_ne (pc := 580) (tgt := 587) B dL_step_580 (by decide) (fun c580 => ?_) (fun c580 => ?_)
    · rw [if_neg c580] at h
      refine g_iconst (pc := 587) B dL_step_587 (0 : Int32) (by decide) ?_
      obtain rfl := Option.some.inj h
      exact g_ret_Z (pc := 588) B rfl (Or.inl rfl) (by decide) (by decide) dL_step_588
    · rw [if_pos c580] at h
      refine g_iconst (pc := 583) B dL_step_583 (1 : Int32) (by decide) ?_
      refine g_goto (pc := 584) (tgt := 588) B dL_step_584 (by decide) ?_
      obtain rfl := Option.some.inj h
      exact g_ret_Z (pc := 588) B rfl (Or.inr rfl) (by decide) (by decide) dL_step_588
  · rw [if_neg c547] at h
    refine g_iload (pc := 550) B dL_step_550 2 rfl ?_
    refine g_aload_n (pc := 552) B dL_step_552 0 rfl ?_
    refine g_iload (pc := 553) B dL_step_553 4 rfl ?_
    obtain ⟨k555_1, h⟩ := chk h
    obtain ⟨v555, e555, h⟩ := nT_s h
    refine p_callV (pc := 555) (P := X) (As := [vI x11]) (st := [vI x9]) (st10 := [vI v555, vI x9]) (cs' := 0) (sl' := 0) B cal_X11_hangs kmL_48 kn_X11_hangs ks_X11_hangs hap k555_1 rfl (fun l hl => ct_X11_hangs hl e555) rfl (Nat.le_of_ble_eq_true rfl) (by decide) (by decide) dL_step_555 rfl rfl rfl rfl ?_
    refine g_iconst (pc := 558) B dL_step_558 (-1) (by decide) ?_
    refine g_icmp_ne (pc := 559) (tgt := 566) B dL_step_559 (by decide) (fun c559 => ?_) (fun c559 => ?_)
    · rw [if_neg c559] at h
      refine g_iconst (pc := 566) B dL_step_566 (1 : Int32) (by decide) ?_
      refine g_sub (pc := 567) [0, 1, 3, 4] rfl ?_
      exact cb_L_step_L567 B ht hap hrec542 h
    · rw [if_pos c559] at h
      refine g_iconst (pc := 562) B dL_step_562 (0 : Int32) (by decide) ?_
      refine g_goto (pc := 563) (tgt := 567) B dL_step_563 (by decide) ?_
      refine g_sub (pc := 567) [0, 1, 3, 4] rfl ?_
      exact cb_L_step_L567 B ht hap hrec542 h
theorem cb_L_step_L542n {D : DD} {ev : EV} {X0 : LwP} {fu : Nat} (B : Amb D (foot (lM X0)) ev RL "step" cL_step 12 (some .boolean) rmL_step) (ht : Tb0 ev)  : ∀ (n : Nat) {X : LwP} {x0 : Nat} {x1 : Nat} {x9 : Int32} {x10 : Int32} {x11 : Int32} {r : Int32 × LwP}, apM X.1 X.2 → fL_step_L542 fu n X x0 x1 x9 x10 x11 = some r → Gd D (foot (lM X0)) ev (QF D ev (lM X0) (.inr (some (vI r.1))) (lM r.2) rmL_step) (lM X) 0 0 542 [(0, vA (some x0)), (1, vA (some x1)), (9, vI x9), (10, vI x10), (11, vI x11)] [] := by
  intro n
  induction n with
  | zero => intro X x0 x1 x9 x10 x11 r hap h; exact nomatch h
  | succ n ih => intro X x0 x1 x9 x10 x11 r hap h; exact cb_L_step_L542b (fu := fu) B ht hap (fun hap9 h9 => ih hap9 h9) h
theorem cb_L_step_L542 {D : DD} {ev : EV} {X0 : LwP} {fu : Nat} {X : LwP} {x0 : Nat} {x1 : Nat} {x9 : Int32} {x10 : Int32} {x11 : Int32} {n : Nat} {r : Int32 × LwP} (B : Amb D (foot (lM X0)) ev RL "step" cL_step 12 (some .boolean) rmL_step) (ht : Tb0 ev) (hap : apM X.1 X.2)  (h : fL_step_L542 fu n X x0 x1 x9 x10 x11 = some r) : Gd D (foot (lM X0)) ev (QF D ev (lM X0) (.inr (some (vI r.1))) (lM r.2) rmL_step) (lM X) 0 0 542 [(0, vA (some x0)), (1, vA (some x1)), (9, vI x9), (10, vI x10), (11, vI x11)] [] := cb_L_step_L542n B ht n hap h
set_option maxRecDepth 100000 in
set_option maxHeartbeats 4000000 in
theorem cb_L_step_L0 {D : DD} {ev : EV} {X0 : LwP} {fu : Nat} {X : LwP} {x0 : Nat} {x1 : Nat} {x2 : Nat} {x3 : Nat} {x4 : Int32} {x5 : Int32} {x6 : Int32} {r : Int32 × LwP} (B : Amb D (foot (lM X0)) ev RL "step" cL_step 12 (some .boolean) rmL_step) (ht : Tb0 ev) (hap : apM X.1 X.2)  (h : fL_step fu X x0 x1 x2 x3 x4 x5 x6 = some r) : Gd D (foot (lM X0)) ev (QF D ev (lM X0) (.inr (some (vI r.1))) (lM r.2) rmL_step) (lM X) 0 0 0 [(0, vA (some x0)), (1, vA (some x1)), (2, vA (some x2)), (3, vA (some x3)), (4, vI x4), (5, vI x5), (6, vI x6)] [] := by
  unfold fL_step at h
  refine g_iload (pc := 0) B dL_step_0 4 rfl ?_
  refine g_bipush (pc := 2) B dL_step_2 (16 : Int32) (by decide) ?_
  refine g_irem (pc := 4) B dL_step_4 (by decide) ?_
  by_cases c5v0 : (x4 - x4 / (16 : Int32) * (16 : Int32)) = (0 : Int32)
  · rw [if_pos c5v0] at h
    refine g_tableIn (pc := 5) (tgt := 80) (off := 75) B dL_step_5 (by rw [c5v0]; decide) (by rw [c5v0]; decide) (by rw [c5v0]; decide +kernel) (by decide) ?_
    refine g_sub (pc := 80) [0, 1, 4, 5, 6] rfl ?_
    exact cb_L_step_L80 B ht hap h
  · rw [if_neg c5v0] at h
    by_cases c5v1 : (x4 - x4 / (16 : Int32) * (16 : Int32)) = (1 : Int32)
    · rw [if_pos c5v1] at h
      refine g_tableIn (pc := 5) (tgt := 80) (off := 75) B dL_step_5 (by rw [c5v1]; decide) (by rw [c5v1]; decide) (by rw [c5v1]; decide +kernel) (by decide) ?_
      refine g_sub (pc := 80) [0, 1, 4, 5, 6] rfl ?_
      exact cb_L_step_L80 B ht hap h
    · rw [if_neg c5v1] at h
      by_cases c5v2 : (x4 - x4 / (16 : Int32) * (16 : Int32)) = (2 : Int32)
      · rw [if_pos c5v2] at h
        refine g_tableIn (pc := 5) (tgt := 80) (off := 75) B dL_step_5 (by rw [c5v2]; decide) (by rw [c5v2]; decide) (by rw [c5v2]; decide +kernel) (by decide) ?_
        refine g_sub (pc := 80) [0, 1, 4, 5, 6] rfl ?_
        exact cb_L_step_L80 B ht hap h
      · rw [if_neg c5v2] at h
        by_cases c5v3 : (x4 - x4 / (16 : Int32) * (16 : Int32)) = (3 : Int32)
        · rw [if_pos c5v3] at h
          refine g_tableIn (pc := 5) (tgt := 80) (off := 75) B dL_step_5 (by rw [c5v3]; decide) (by rw [c5v3]; decide) (by rw [c5v3]; decide +kernel) (by decide) ?_
          refine g_sub (pc := 80) [0, 1, 4, 5, 6] rfl ?_
          exact cb_L_step_L80 B ht hap h
        · rw [if_neg c5v3] at h
          by_cases c5v4 : (x4 - x4 / (16 : Int32) * (16 : Int32)) = (4 : Int32)
          · rw [if_pos c5v4] at h
            refine g_tableIn (pc := 5) (tgt := 80) (off := 75) B dL_step_5 (by rw [c5v4]; decide) (by rw [c5v4]; decide) (by rw [c5v4]; decide +kernel) (by decide) ?_
            refine g_sub (pc := 80) [0, 1, 4, 5, 6] rfl ?_
            exact cb_L_step_L80 B ht hap h
          · rw [if_neg c5v4] at h
            by_cases c5v5 : (x4 - x4 / (16 : Int32) * (16 : Int32)) = (5 : Int32)
            · rw [if_pos c5v5] at h
              refine g_tableIn (pc := 5) (tgt := 80) (off := 75) B dL_step_5 (by rw [c5v5]; decide) (by rw [c5v5]; decide) (by rw [c5v5]; decide +kernel) (by decide) ?_
              refine g_sub (pc := 80) [0, 1, 4, 5, 6] rfl ?_
              exact cb_L_step_L80 B ht hap h
            · rw [if_neg c5v5] at h
              by_cases c5v6 : (x4 - x4 / (16 : Int32) * (16 : Int32)) = (6 : Int32)
              · rw [if_pos c5v6] at h
                refine g_tableIn (pc := 5) (tgt := 80) (off := 75) B dL_step_5 (by rw [c5v6]; decide) (by rw [c5v6]; decide) (by rw [c5v6]; decide +kernel) (by decide) ?_
                refine g_sub (pc := 80) [0, 1, 4, 5, 6] rfl ?_
                exact cb_L_step_L80 B ht hap h
              · rw [if_neg c5v6] at h
                by_cases c5v7 : (x4 - x4 / (16 : Int32) * (16 : Int32)) = (7 : Int32)
                · rw [if_pos c5v7] at h
                  refine g_tableIn (pc := 5) (tgt := 111) (off := 106) B dL_step_5 (by rw [c5v7]; decide) (by rw [c5v7]; decide) (by rw [c5v7]; decide +kernel) (by decide) ?_
                  refine g_sub (pc := 111) [0, 1, 2, 6] rfl ?_
                  exact cb_L_step_L111 B ht hap h
                · rw [if_neg c5v7] at h
                  by_cases c5v8 : (x4 - x4 / (16 : Int32) * (16 : Int32)) = (8 : Int32)
                  · rw [if_pos c5v8] at h
                    refine g_tableIn (pc := 5) (tgt := 111) (off := 106) B dL_step_5 (by rw [c5v8]; decide) (by rw [c5v8]; decide) (by rw [c5v8]; decide +kernel) (by decide) ?_
                    refine g_sub (pc := 111) [0, 1, 2, 6] rfl ?_
                    exact cb_L_step_L111 B ht hap h
                  · rw [if_neg c5v8] at h
                    by_cases c5v9 : (x4 - x4 / (16 : Int32) * (16 : Int32)) = (9 : Int32)
                    · rw [if_pos c5v9] at h
                      refine g_tableIn (pc := 5) (tgt := 144) (off := 139) B dL_step_5 (by rw [c5v9]; decide) (by rw [c5v9]; decide) (by rw [c5v9]; decide +kernel) (by decide) ?_
                      refine g_aload_n (pc := 144) B dL_step_144 1 rfl ?_
                      refine g_iconst (pc := 145) B dL_step_145 (3 : Int32) (by decide) ?_
                      obtain ⟨c146, h⟩ := chk h
                      refine gp_iald (pc := 146) (P := X) B hap c146 dL_step_146 ?_
                      refine g_if_eq (pc := 147) (tgt := 157) B dL_step_147 (by decide) (fun c147 => ?_) (fun c147 => ?_)
                      · rw [if_pos c147] at h
                        refine g_sub (pc := 157) [0, 1] rfl ?_
                        exact cb_L_step_L157 B ht hap h
                      · rw [if_neg c147] at h
                        refine g_aload_n (pc := 150) B dL_step_150 1 rfl ?_
                        refine g_iconst (pc := 151) B dL_step_151 (4 : Int32) (by decide) ?_
                        obtain ⟨c152, h⟩ := chk h
                        refine gp_iald (pc := 152) (P := X) B hap c152 dL_step_152 ?_
                        refine g_iconst (pc := 153) B dL_step_153 (4 : Int32) (by decide) ?_
                        refine g_icmp_ne (pc := 154) (tgt := 173) B dL_step_154 (by decide) (fun c154 => ?_) (fun c154 => ?_)
                        · rw [if_neg c154] at h
                          refine g_aload_n (pc := 173) B dL_step_173 3 rfl ?_
                          refine g_aload_n (pc := 174) B dL_step_174 1 rfl ?_
                          refine g_iconst (pc := 175) B dL_step_175 (4 : Int32) (by decide) ?_
                          obtain ⟨c176, h⟩ := chk h
                          refine gp_iald (pc := 176) (P := X) B hap c176 dL_step_176 ?_
                          refine g_iload (pc := 177) B dL_step_177 5 rfl ?_
                          refine g_aload_n (pc := 179) B dL_step_179 1 rfl ?_
                          refine g_iconst (pc := 180) B dL_step_180 (3 : Int32) (by decide) ?_
                          obtain ⟨c181, h⟩ := chk h
                          refine gp_iald (pc := 181) (P := X) B hap c181 dL_step_181 ?_
                          obtain ⟨c182, h⟩ := chkN h
                          refine g_irem (pc := 182) B dL_step_182 c182 ?_
                          obtain ⟨c183, h⟩ := chk h
                          refine gp_iast (pc := 183) (P := X) B hap c183 dL_step_183 ?_
                          refine g_aload_n (pc := 184) B dL_step_184 3 rfl ?_
                          refine g_iconst (pc := 185) B dL_step_185 (4 : Int32) (by decide) ?_
                          refine g_aload_n (pc := 186) B dL_step_186 1 rfl ?_
                          refine g_iconst (pc := 187) B dL_step_187 (4 : Int32) (by decide) ?_
                          obtain ⟨c188, h⟩ := chk h
                          refine gp_iald (pc := 188) (P := (X.1, (sI X.2 x3 (aI X.2 x1 (4 : Int32).toNatClampNeg).toNatClampNeg (x5 - x5 / (aI X.2 x1 (3 : Int32).toNatClampNeg) * (aI X.2 x1 (3 : Int32).toNatClampNeg))))) B hap c188 dL_step_188 ?_
                          refine g_iadd (pc := 189) B dL_step_189 ?_
                          refine g_iconst (pc := 190) B dL_step_190 (1 : Int32) (by decide) ?_
                          refine g_iload (pc := 191) B dL_step_191 6 rfl ?_
                          refine g_bipush (pc := 193) B dL_step_193 (30 : Int32) (by decide) ?_
                          refine g_irem (pc := 195) B dL_step_195 (by decide) ?_
                          refine g_iadd (pc := 196) B dL_step_196 ?_
                          obtain ⟨c197, h⟩ := chk h
                          refine gp_iast (pc := 197) (P := (X.1, (sI X.2 x3 (aI X.2 x1 (4 : Int32).toNatClampNeg).toNatClampNeg (x5 - x5 / (aI X.2 x1 (3 : Int32).toNatClampNeg) * (aI X.2 x1 (3 : Int32).toNatClampNeg))))) B hap c197 dL_step_197 ?_
                          refine g_aload_n (pc := 198) B dL_step_198 3 rfl ?_
                          refine g_bipush (pc := 199) B dL_step_199 (8 : Int32) (by decide) ?_
                          refine g_aload_n (pc := 201) B dL_step_201 1 rfl ?_
                          refine g_iconst (pc := 202) B dL_step_202 (4 : Int32) (by decide) ?_
                          obtain ⟨c203, h⟩ := chk h
                          refine gp_iald (pc := 203) (P := (X.1, (sI (sI X.2 x3 (aI X.2 x1 (4 : Int32).toNatClampNeg).toNatClampNeg (x5 - x5 / (aI X.2 x1 (3 : Int32).toNatClampNeg) * (aI X.2 x1 (3 : Int32).toNatClampNeg))) x3 ((4 : Int32) + (aI (sI X.2 x3 (aI X.2 x1 (4 : Int32).toNatClampNeg).toNatClampNeg (x5 - x5 / (aI X.2 x1 (3 : Int32).toNatClampNeg) * (aI X.2 x1 (3 : Int32).toNatClampNeg))) x1 (4 : Int32).toNatClampNeg)).toNatClampNeg ((1 : Int32) + (x6 - x6 / (30 : Int32) * (30 : Int32)))))) B hap c203 dL_step_203 ?_
                          refine g_iadd (pc := 204) B dL_step_204 ?_
                          refine g_iload (pc := 205) B dL_step_205 6 rfl ?_
                          refine g_bipush (pc := 207) B dL_step_207 (30 : Int32) (by decide) ?_
                          refine g_idiv (pc := 209) B dL_step_209 (by decide) ?_
                          refine g_sipush (pc := 210) B dL_step_210 (601 : Int32) (by decide) ?_
                          refine g_irem (pc := 213) B dL_step_213 (by decide) ?_
                          obtain ⟨c214, h⟩ := chk h
                          refine gp_iast (pc := 214) (P := (X.1, (sI (sI X.2 x3 (aI X.2 x1 (4 : Int32).toNatClampNeg).toNatClampNeg (x5 - x5 / (aI X.2 x1 (3 : Int32).toNatClampNeg) * (aI X.2 x1 (3 : Int32).toNatClampNeg))) x3 ((4 : Int32) + (aI (sI X.2 x3 (aI X.2 x1 (4 : Int32).toNatClampNeg).toNatClampNeg (x5 - x5 / (aI X.2 x1 (3 : Int32).toNatClampNeg) * (aI X.2 x1 (3 : Int32).toNatClampNeg))) x1 (4 : Int32).toNatClampNeg)).toNatClampNeg ((1 : Int32) + (x6 - x6 / (30 : Int32) * (30 : Int32)))))) B hap c214 dL_step_214 ?_
                          refine g_aload_n (pc := 215) B dL_step_215 1 rfl ?_
                          refine g_iconst (pc := 216) B dL_step_216 (4 : Int32) (by decide) ?_
                          refine g_dup2 (pc := 217) B dL_step_217 rfl rfl ?_
                          obtain ⟨c218, h⟩ := chk h
                          refine gp_iald (pc := 218) (P := (X.1, (sI (sI (sI X.2 x3 (aI X.2 x1 (4 : Int32).toNatClampNeg).toNatClampNeg (x5 - x5 / (aI X.2 x1 (3 : Int32).toNatClampNeg) * (aI X.2 x1 (3 : Int32).toNatClampNeg))) x3 ((4 : Int32) + (aI (sI X.2 x3 (aI X.2 x1 (4 : Int32).toNatClampNeg).toNatClampNeg (x5 - x5 / (aI X.2 x1 (3 : Int32).toNatClampNeg) * (aI X.2 x1 (3 : Int32).toNatClampNeg))) x1 (4 : Int32).toNatClampNeg)).toNatClampNeg ((1 : Int32) + (x6 - x6 / (30 : Int32) * (30 : Int32)))) x3 ((8 : Int32) + (aI (sI (sI X.2 x3 (aI X.2 x1 (4 : Int32).toNatClampNeg).toNatClampNeg (x5 - x5 / (aI X.2 x1 (3 : Int32).toNatClampNeg) * (aI X.2 x1 (3 : Int32).toNatClampNeg))) x3 ((4 : Int32) + (aI (sI X.2 x3 (aI X.2 x1 (4 : Int32).toNatClampNeg).toNatClampNeg (x5 - x5 / (aI X.2 x1 (3 : Int32).toNatClampNeg) * (aI X.2 x1 (3 : Int32).toNatClampNeg))) x1 (4 : Int32).toNatClampNeg)).toNatClampNeg ((1 : Int32) + (x6 - x6 / (30 : Int32) * (30 : Int32)))) x1 (4 : Int32).toNatClampNeg)).toNatClampNeg ((x6 / (30 : Int32)) - (x6 / (30 : Int32)) / (601 : Int32) * (601 : Int32))))) B hap c218 dL_step_218 ?_
                          refine g_iconst (pc := 219) B dL_step_219 (1 : Int32) (by decide) ?_
                          refine g_iadd (pc := 220) B dL_step_220 ?_
                          obtain ⟨c221, h⟩ := chk h
                          refine gp_iast (pc := 221) (P := (X.1, (sI (sI (sI X.2 x3 (aI X.2 x1 (4 : Int32).toNatClampNeg).toNatClampNeg (x5 - x5 / (aI X.2 x1 (3 : Int32).toNatClampNeg) * (aI X.2 x1 (3 : Int32).toNatClampNeg))) x3 ((4 : Int32) + (aI (sI X.2 x3 (aI X.2 x1 (4 : Int32).toNatClampNeg).toNatClampNeg (x5 - x5 / (aI X.2 x1 (3 : Int32).toNatClampNeg) * (aI X.2 x1 (3 : Int32).toNatClampNeg))) x1 (4 : Int32).toNatClampNeg)).toNatClampNeg ((1 : Int32) + (x6 - x6 / (30 : Int32) * (30 : Int32)))) x3 ((8 : Int32) + (aI (sI (sI X.2 x3 (aI X.2 x1 (4 : Int32).toNatClampNeg).toNatClampNeg (x5 - x5 / (aI X.2 x1 (3 : Int32).toNatClampNeg) * (aI X.2 x1 (3 : Int32).toNatClampNeg))) x3 ((4 : Int32) + (aI (sI X.2 x3 (aI X.2 x1 (4 : Int32).toNatClampNeg).toNatClampNeg (x5 - x5 / (aI X.2 x1 (3 : Int32).toNatClampNeg) * (aI X.2 x1 (3 : Int32).toNatClampNeg))) x1 (4 : Int32).toNatClampNeg)).toNatClampNeg ((1 : Int32) + (x6 - x6 / (30 : Int32) * (30 : Int32)))) x1 (4 : Int32).toNatClampNeg)).toNatClampNeg ((x6 / (30 : Int32)) - (x6 / (30 : Int32)) / (601 : Int32) * (601 : Int32))))) B hap c221 dL_step_221 ?_
                          refine g_aload_n (pc := 222) B dL_step_222 0 rfl ?_
                          refine g_iload (pc := 223) B dL_step_223 5 rfl ?_
                          refine g_aload_n (pc := 225) B dL_step_225 1 rfl ?_
                          refine g_iconst (pc := 226) B dL_step_226 (3 : Int32) (by decide) ?_
                          obtain ⟨c227, h⟩ := chk h
                          refine gp_iald (pc := 227) (P := (X.1, (sI (sI (sI (sI X.2 x3 (aI X.2 x1 (4 : Int32).toNatClampNeg).toNatClampNeg (x5 - x5 / (aI X.2 x1 (3 : Int32).toNatClampNeg) * (aI X.2 x1 (3 : Int32).toNatClampNeg))) x3 ((4 : Int32) + (aI (sI X.2 x3 (aI X.2 x1 (4 : Int32).toNatClampNeg).toNatClampNeg (x5 - x5 / (aI X.2 x1 (3 : Int32).toNatClampNeg) * (aI X.2 x1 (3 : Int32).toNatClampNeg))) x1 (4 : Int32).toNatClampNeg)).toNatClampNeg ((1 : Int32) + (x6 - x6 / (30 : Int32) * (30 : Int32)))) x3 ((8 : Int32) + (aI (sI (sI X.2 x3 (aI X.2 x1 (4 : Int32).toNatClampNeg).toNatClampNeg (x5 - x5 / (aI X.2 x1 (3 : Int32).toNatClampNeg) * (aI X.2 x1 (3 : Int32).toNatClampNeg))) x3 ((4 : Int32) + (aI (sI X.2 x3 (aI X.2 x1 (4 : Int32).toNatClampNeg).toNatClampNeg (x5 - x5 / (aI X.2 x1 (3 : Int32).toNatClampNeg) * (aI X.2 x1 (3 : Int32).toNatClampNeg))) x1 (4 : Int32).toNatClampNeg)).toNatClampNeg ((1 : Int32) + (x6 - x6 / (30 : Int32) * (30 : Int32)))) x1 (4 : Int32).toNatClampNeg)).toNatClampNeg ((x6 / (30 : Int32)) - (x6 / (30 : Int32)) / (601 : Int32) * (601 : Int32))) x1 (4 : Int32).toNatClampNeg ((aI (sI (sI (sI X.2 x3 (aI X.2 x1 (4 : Int32).toNatClampNeg).toNatClampNeg (x5 - x5 / (aI X.2 x1 (3 : Int32).toNatClampNeg) * (aI X.2 x1 (3 : Int32).toNatClampNeg))) x3 ((4 : Int32) + (aI (sI X.2 x3 (aI X.2 x1 (4 : Int32).toNatClampNeg).toNatClampNeg (x5 - x5 / (aI X.2 x1 (3 : Int32).toNatClampNeg) * (aI X.2 x1 (3 : Int32).toNatClampNeg))) x1 (4 : Int32).toNatClampNeg)).toNatClampNeg ((1 : Int32) + (x6 - x6 / (30 : Int32) * (30 : Int32)))) x3 ((8 : Int32) + (aI (sI (sI X.2 x3 (aI X.2 x1 (4 : Int32).toNatClampNeg).toNatClampNeg (x5 - x5 / (aI X.2 x1 (3 : Int32).toNatClampNeg) * (aI X.2 x1 (3 : Int32).toNatClampNeg))) x3 ((4 : Int32) + (aI (sI X.2 x3 (aI X.2 x1 (4 : Int32).toNatClampNeg).toNatClampNeg (x5 - x5 / (aI X.2 x1 (3 : Int32).toNatClampNeg) * (aI X.2 x1 (3 : Int32).toNatClampNeg))) x1 (4 : Int32).toNatClampNeg)).toNatClampNeg ((1 : Int32) + (x6 - x6 / (30 : Int32) * (30 : Int32)))) x1 (4 : Int32).toNatClampNeg)).toNatClampNeg ((x6 / (30 : Int32)) - (x6 / (30 : Int32)) / (601 : Int32) * (601 : Int32))) x1 (4 : Int32).toNatClampNeg) + (1 : Int32))))) B hap c227 dL_step_227 ?_
                          obtain ⟨c228, h⟩ := chkN h
                          refine g_irem (pc := 228) B dL_step_228 c228 ?_
                          refine g_iconst (pc := 229) B dL_step_229 (1 : Int32) (by decide) ?_
                          refine g_iload (pc := 230) B dL_step_230 6 rfl ?_
                          refine g_bipush (pc := 232) B dL_step_232 (30 : Int32) (by decide) ?_
                          refine g_irem (pc := 234) B dL_step_234 (by decide) ?_
                          refine g_iadd (pc := 235) B dL_step_235 ?_
                          refine g_iload (pc := 236) B dL_step_236 6 rfl ?_
                          refine g_bipush (pc := 238) B dL_step_238 (30 : Int32) (by decide) ?_
                          refine g_idiv (pc := 240) B dL_step_240 (by decide) ?_
                          refine g_sipush (pc := 241) B dL_step_241 (601 : Int32) (by decide) ?_
                          refine g_irem (pc := 244) B dL_step_244 (by decide) ?_
                          obtain ⟨k245_1, h⟩ := chk h
                          obtain ⟨v245, X245, e245, h⟩ := nTW_s h
                          obtain ⟨P245, eP245, h⟩ := ob h
                          obtain ⟨hap245, h⟩ := apC_s h
                          refine p_callVW (pc := 245) (P := (X.1, (sI (sI (sI (sI X.2 x3 (aI X.2 x1 (4 : Int32).toNatClampNeg).toNatClampNeg (x5 - x5 / (aI X.2 x1 (3 : Int32).toNatClampNeg) * (aI X.2 x1 (3 : Int32).toNatClampNeg))) x3 ((4 : Int32) + (aI (sI X.2 x3 (aI X.2 x1 (4 : Int32).toNatClampNeg).toNatClampNeg (x5 - x5 / (aI X.2 x1 (3 : Int32).toNatClampNeg) * (aI X.2 x1 (3 : Int32).toNatClampNeg))) x1 (4 : Int32).toNatClampNeg)).toNatClampNeg ((1 : Int32) + (x6 - x6 / (30 : Int32) * (30 : Int32)))) x3 ((8 : Int32) + (aI (sI (sI X.2 x3 (aI X.2 x1 (4 : Int32).toNatClampNeg).toNatClampNeg (x5 - x5 / (aI X.2 x1 (3 : Int32).toNatClampNeg) * (aI X.2 x1 (3 : Int32).toNatClampNeg))) x3 ((4 : Int32) + (aI (sI X.2 x3 (aI X.2 x1 (4 : Int32).toNatClampNeg).toNatClampNeg (x5 - x5 / (aI X.2 x1 (3 : Int32).toNatClampNeg) * (aI X.2 x1 (3 : Int32).toNatClampNeg))) x1 (4 : Int32).toNatClampNeg)).toNatClampNeg ((1 : Int32) + (x6 - x6 / (30 : Int32) * (30 : Int32)))) x1 (4 : Int32).toNatClampNeg)).toNatClampNeg ((x6 / (30 : Int32)) - (x6 / (30 : Int32)) / (601 : Int32) * (601 : Int32))) x1 (4 : Int32).toNatClampNeg ((aI (sI (sI (sI X.2 x3 (aI X.2 x1 (4 : Int32).toNatClampNeg).toNatClampNeg (x5 - x5 / (aI X.2 x1 (3 : Int32).toNatClampNeg) * (aI X.2 x1 (3 : Int32).toNatClampNeg))) x3 ((4 : Int32) + (aI (sI X.2 x3 (aI X.2 x1 (4 : Int32).toNatClampNeg).toNatClampNeg (x5 - x5 / (aI X.2 x1 (3 : Int32).toNatClampNeg) * (aI X.2 x1 (3 : Int32).toNatClampNeg))) x1 (4 : Int32).toNatClampNeg)).toNatClampNeg ((1 : Int32) + (x6 - x6 / (30 : Int32) * (30 : Int32)))) x3 ((8 : Int32) + (aI (sI (sI X.2 x3 (aI X.2 x1 (4 : Int32).toNatClampNeg).toNatClampNeg (x5 - x5 / (aI X.2 x1 (3 : Int32).toNatClampNeg) * (aI X.2 x1 (3 : Int32).toNatClampNeg))) x3 ((4 : Int32) + (aI (sI X.2 x3 (aI X.2 x1 (4 : Int32).toNatClampNeg).toNatClampNeg (x5 - x5 / (aI X.2 x1 (3 : Int32).toNatClampNeg) * (aI X.2 x1 (3 : Int32).toNatClampNeg))) x1 (4 : Int32).toNatClampNeg)).toNatClampNeg ((1 : Int32) + (x6 - x6 / (30 : Int32) * (30 : Int32)))) x1 (4 : Int32).toNatClampNeg)).toNatClampNeg ((x6 / (30 : Int32)) - (x6 / (30 : Int32)) / (601 : Int32) * (601 : Int32))) x1 (4 : Int32).toNatClampNeg) + (1 : Int32))))) (As := [vI (x5 - x5 / (aI (sI (sI (sI (sI X.2 x3 (aI X.2 x1 (4 : Int32).toNatClampNeg).toNatClampNeg (x5 - x5 / (aI X.2 x1 (3 : Int32).toNatClampNeg) * (aI X.2 x1 (3 : Int32).toNatClampNeg))) x3 ((4 : Int32) + (aI (sI X.2 x3 (aI X.2 x1 (4 : Int32).toNatClampNeg).toNatClampNeg (x5 - x5 / (aI X.2 x1 (3 : Int32).toNatClampNeg) * (aI X.2 x1 (3 : Int32).toNatClampNeg))) x1 (4 : Int32).toNatClampNeg)).toNatClampNeg ((1 : Int32) + (x6 - x6 / (30 : Int32) * (30 : Int32)))) x3 ((8 : Int32) + (aI (sI (sI X.2 x3 (aI X.2 x1 (4 : Int32).toNatClampNeg).toNatClampNeg (x5 - x5 / (aI X.2 x1 (3 : Int32).toNatClampNeg) * (aI X.2 x1 (3 : Int32).toNatClampNeg))) x3 ((4 : Int32) + (aI (sI X.2 x3 (aI X.2 x1 (4 : Int32).toNatClampNeg).toNatClampNeg (x5 - x5 / (aI X.2 x1 (3 : Int32).toNatClampNeg) * (aI X.2 x1 (3 : Int32).toNatClampNeg))) x1 (4 : Int32).toNatClampNeg)).toNatClampNeg ((1 : Int32) + (x6 - x6 / (30 : Int32) * (30 : Int32)))) x1 (4 : Int32).toNatClampNeg)).toNatClampNeg ((x6 / (30 : Int32)) - (x6 / (30 : Int32)) / (601 : Int32) * (601 : Int32))) x1 (4 : Int32).toNatClampNeg ((aI (sI (sI (sI X.2 x3 (aI X.2 x1 (4 : Int32).toNatClampNeg).toNatClampNeg (x5 - x5 / (aI X.2 x1 (3 : Int32).toNatClampNeg) * (aI X.2 x1 (3 : Int32).toNatClampNeg))) x3 ((4 : Int32) + (aI (sI X.2 x3 (aI X.2 x1 (4 : Int32).toNatClampNeg).toNatClampNeg (x5 - x5 / (aI X.2 x1 (3 : Int32).toNatClampNeg) * (aI X.2 x1 (3 : Int32).toNatClampNeg))) x1 (4 : Int32).toNatClampNeg)).toNatClampNeg ((1 : Int32) + (x6 - x6 / (30 : Int32) * (30 : Int32)))) x3 ((8 : Int32) + (aI (sI (sI X.2 x3 (aI X.2 x1 (4 : Int32).toNatClampNeg).toNatClampNeg (x5 - x5 / (aI X.2 x1 (3 : Int32).toNatClampNeg) * (aI X.2 x1 (3 : Int32).toNatClampNeg))) x3 ((4 : Int32) + (aI (sI X.2 x3 (aI X.2 x1 (4 : Int32).toNatClampNeg).toNatClampNeg (x5 - x5 / (aI X.2 x1 (3 : Int32).toNatClampNeg) * (aI X.2 x1 (3 : Int32).toNatClampNeg))) x1 (4 : Int32).toNatClampNeg)).toNatClampNeg ((1 : Int32) + (x6 - x6 / (30 : Int32) * (30 : Int32)))) x1 (4 : Int32).toNatClampNeg)).toNatClampNeg ((x6 / (30 : Int32)) - (x6 / (30 : Int32)) / (601 : Int32) * (601 : Int32))) x1 (4 : Int32).toNatClampNeg) + (1 : Int32))) x1 (3 : Int32).toNatClampNeg) * (aI (sI (sI (sI (sI X.2 x3 (aI X.2 x1 (4 : Int32).toNatClampNeg).toNatClampNeg (x5 - x5 / (aI X.2 x1 (3 : Int32).toNatClampNeg) * (aI X.2 x1 (3 : Int32).toNatClampNeg))) x3 ((4 : Int32) + (aI (sI X.2 x3 (aI X.2 x1 (4 : Int32).toNatClampNeg).toNatClampNeg (x5 - x5 / (aI X.2 x1 (3 : Int32).toNatClampNeg) * (aI X.2 x1 (3 : Int32).toNatClampNeg))) x1 (4 : Int32).toNatClampNeg)).toNatClampNeg ((1 : Int32) + (x6 - x6 / (30 : Int32) * (30 : Int32)))) x3 ((8 : Int32) + (aI (sI (sI X.2 x3 (aI X.2 x1 (4 : Int32).toNatClampNeg).toNatClampNeg (x5 - x5 / (aI X.2 x1 (3 : Int32).toNatClampNeg) * (aI X.2 x1 (3 : Int32).toNatClampNeg))) x3 ((4 : Int32) + (aI (sI X.2 x3 (aI X.2 x1 (4 : Int32).toNatClampNeg).toNatClampNeg (x5 - x5 / (aI X.2 x1 (3 : Int32).toNatClampNeg) * (aI X.2 x1 (3 : Int32).toNatClampNeg))) x1 (4 : Int32).toNatClampNeg)).toNatClampNeg ((1 : Int32) + (x6 - x6 / (30 : Int32) * (30 : Int32)))) x1 (4 : Int32).toNatClampNeg)).toNatClampNeg ((x6 / (30 : Int32)) - (x6 / (30 : Int32)) / (601 : Int32) * (601 : Int32))) x1 (4 : Int32).toNatClampNeg ((aI (sI (sI (sI X.2 x3 (aI X.2 x1 (4 : Int32).toNatClampNeg).toNatClampNeg (x5 - x5 / (aI X.2 x1 (3 : Int32).toNatClampNeg) * (aI X.2 x1 (3 : Int32).toNatClampNeg))) x3 ((4 : Int32) + (aI (sI X.2 x3 (aI X.2 x1 (4 : Int32).toNatClampNeg).toNatClampNeg (x5 - x5 / (aI X.2 x1 (3 : Int32).toNatClampNeg) * (aI X.2 x1 (3 : Int32).toNatClampNeg))) x1 (4 : Int32).toNatClampNeg)).toNatClampNeg ((1 : Int32) + (x6 - x6 / (30 : Int32) * (30 : Int32)))) x3 ((8 : Int32) + (aI (sI (sI X.2 x3 (aI X.2 x1 (4 : Int32).toNatClampNeg).toNatClampNeg (x5 - x5 / (aI X.2 x1 (3 : Int32).toNatClampNeg) * (aI X.2 x1 (3 : Int32).toNatClampNeg))) x3 ((4 : Int32) + (aI (sI X.2 x3 (aI X.2 x1 (4 : Int32).toNatClampNeg).toNatClampNeg (x5 - x5 / (aI X.2 x1 (3 : Int32).toNatClampNeg) * (aI X.2 x1 (3 : Int32).toNatClampNeg))) x1 (4 : Int32).toNatClampNeg)).toNatClampNeg ((1 : Int32) + (x6 - x6 / (30 : Int32) * (30 : Int32)))) x1 (4 : Int32).toNatClampNeg)).toNatClampNeg ((x6 / (30 : Int32)) - (x6 / (30 : Int32)) / (601 : Int32) * (601 : Int32))) x1 (4 : Int32).toNatClampNeg) + (1 : Int32))) x1 (3 : Int32).toNatClampNeg)), vI ((1 : Int32) + (x6 - x6 / (30 : Int32) * (30 : Int32))), vI ((x6 / (30 : Int32)) - (x6 / (30 : Int32)) / (601 : Int32) * (601 : Int32))]) (st := []) (st10 := [vI v245]) (cs' := 1) (sl' := 3) B cal_X11_exercise kmL_26 kn_X11_exercise ks_X11_exercise hap k245_1 rfl (fun l hl => ct_X11_exercise hl e245) eP245 rfl (Nat.le_of_ble_eq_true rfl) (by decide) (by decide) dL_step_245 rfl rfl rfl rfl ?_
                          refine g_aload_n (pc := 248) B dL_step_248 1 rfl ?_
                          refine g_iconst (pc := 249) B dL_step_249 (4 : Int32) (by decide) ?_
                          obtain ⟨c250, h⟩ := chk h
                          refine gp_iald (pc := 250) (P := P245) B hap245 c250 dL_step_250 ?_
                          refine g_iconst (pc := 251) B dL_step_251 (1 : Int32) (by decide) ?_
                          refine g_isub (pc := 252) B dL_step_252 ?_
                          refine g_icmp_ne (pc := 253) (tgt := 260) B dL_step_253 (by decide) (fun c253 => ?_) (fun c253 => ?_)
                          · rw [if_neg c253] at h
                            refine g_iconst (pc := 260) B dL_step_260 (0 : Int32) (by decide) ?_
                            obtain rfl := Option.some.inj h
                            exact g_ret_Z (pc := 261) B rfl (Or.inl rfl) (by decide) (by decide) dL_step_261
                          · rw [if_pos c253] at h
                            refine g_iconst (pc := 256) B dL_step_256 (1 : Int32) (by decide) ?_
                            refine g_goto (pc := 257) (tgt := 261) B dL_step_257 (by decide) ?_
                            obtain rfl := Option.some.inj h
                            exact g_ret_Z (pc := 261) B rfl (Or.inr rfl) (by decide) (by decide) dL_step_261
                        · rw [if_pos c154] at h
                          refine g_sub (pc := 157) [0, 1] rfl ?_
                          exact cb_L_step_L157 B ht hap h
                    · rw [if_neg c5v9] at h
                      by_cases c5v10 : (x4 - x4 / (16 : Int32) * (16 : Int32)) = (10 : Int32)
                      · rw [if_pos c5v10] at h
                        refine g_tableIn (pc := 5) (tgt := 262) (off := 257) B dL_step_5 (by rw [c5v10]; decide) (by rw [c5v10]; decide) (by rw [c5v10]; decide +kernel) (by decide) ?_
                        refine g_aload_n (pc := 262) B dL_step_262 1 rfl ?_
                        refine g_iconst (pc := 263) B dL_step_263 (4 : Int32) (by decide) ?_
                        obtain ⟨c264, h⟩ := chk h
                        refine gp_iald (pc := 264) (P := X) B hap c264 dL_step_264 ?_
                        refine g_if_eq (pc := 265) (tgt := 300) B dL_step_265 (by decide) (fun c265 => ?_) (fun c265 => ?_)
                        · rw [if_pos c265] at h
                          refine g_iconst (pc := 300) B dL_step_300 (1 : Int32) (by decide) ?_
                          refine g_goto (pc := 301) (tgt := 305) B dL_step_301 (by decide) ?_
                          obtain rfl := Option.some.inj h
                          exact g_ret_Z (pc := 305) B rfl (Or.inr rfl) (by decide) (by decide) dL_step_305
                        · rw [if_neg c265] at h
                          refine g_aload_n (pc := 268) B dL_step_268 0 rfl ?_
                          refine g_aload_n (pc := 269) B dL_step_269 1 rfl ?_
                          refine g_aload_n (pc := 270) B dL_step_270 2 rfl ?_
                          refine g_aload_n (pc := 271) B dL_step_271 3 rfl ?_
                          refine g_iload (pc := 272) B dL_step_272 5 rfl ?_
                          refine g_aload_n (pc := 274) B dL_step_274 1 rfl ?_
                          refine g_iconst (pc := 275) B dL_step_275 (4 : Int32) (by decide) ?_
                          obtain ⟨c276, h⟩ := chk h
                          refine gp_iald (pc := 276) (P := X) B hap c276 dL_step_276 ?_
                          obtain ⟨c277, h⟩ := chkN h
                          refine g_irem (pc := 277) B dL_step_277 c277 ?_
                          refine g_iconst (pc := 278) B dL_step_278 (1 : Int32) (by decide) ?_
                          refine g_iload (pc := 279) B dL_step_279 6 rfl ?_
                          refine g_bipush (pc := 281) B dL_step_281 (30 : Int32) (by decide) ?_
                          refine g_irem (pc := 283) B dL_step_283 (by decide) ?_
                          refine g_iadd (pc := 284) B dL_step_284 ?_
                          refine g_iload (pc := 285) B dL_step_285 6 rfl ?_
                          refine g_bipush (pc := 287) B dL_step_287 (30 : Int32) (by decide) ?_
                          refine g_idiv (pc := 289) B dL_step_289 (by decide) ?_
                          refine g_sipush (pc := 290) B dL_step_290 (601 : Int32) (by decide) ?_
                          refine g_irem (pc := 293) B dL_step_293 (by decide) ?_
                          obtain ⟨v294, X294, e294, h⟩ := obW h
                          obtain ⟨hap294, h⟩ := apC_s h
                          refine h_callS (pc := 294) (As := [vA (some x0), vA (some x1), vA (some x2), vA (some x3), vI (x5 - x5 / (aI X.2 x1 (4 : Int32).toNatClampNeg) * (aI X.2 x1 (4 : Int32).toNatClampNeg)), vI ((1 : Int32) + (x6 - x6 / (30 : Int32) * (30 : Int32))), vI ((x6 / (30 : Int32)) - (x6 / (30 : Int32)) / (601 : Int32) * (601 : Int32))]) (st := []) (X' := (lM X294)) (cs' := 0) (sl' := 0) (st10 := [vI v294]) B cal_L_allows kmL_30 kz_L_allows (fun l hl => ct_L_allows (X0 := X) hl hap e294) rfl (Nat.le_of_ble_eq_true rfl) (by decide) (by decide) dL_step_294 rfl rfl rfl rfl ?_
                          refine g_if_eq (pc := 297) (tgt := 304) B dL_step_297 (by decide) (fun c297 => ?_) (fun c297 => ?_)
                          · rw [if_pos c297] at h
                            refine g_iconst (pc := 304) B dL_step_304 (0 : Int32) (by decide) ?_
                            obtain rfl := Option.some.inj h
                            exact g_ret_Z (pc := 305) B rfl (Or.inl rfl) (by decide) (by decide) dL_step_305
                          · rw [if_neg c297] at h
                            refine g_iconst (pc := 300) B dL_step_300 (1 : Int32) (by decide) ?_
                            refine g_goto (pc := 301) (tgt := 305) B dL_step_301 (by decide) ?_
                            obtain rfl := Option.some.inj h
                            exact g_ret_Z (pc := 305) B rfl (Or.inr rfl) (by decide) (by decide) dL_step_305
                      · rw [if_neg c5v10] at h
                        by_cases c5v11 : (x4 - x4 / (16 : Int32) * (16 : Int32)) = (11 : Int32)
                        · rw [if_pos c5v11] at h
                          refine g_tableIn (pc := 5) (tgt := 306) (off := 301) B dL_step_5 (by rw [c5v11]; decide) (by rw [c5v11]; decide) (by rw [c5v11]; decide +kernel) (by decide) ?_
                          refine g_sub (pc := 306) [0, 1, 3, 5, 6] rfl ?_
                          exact cb_L_step_L306 B ht hap h
                        · rw [if_neg c5v11] at h
                          by_cases c5v12 : (x4 - x4 / (16 : Int32) * (16 : Int32)) = (12 : Int32)
                          · rw [if_pos c5v12] at h
                            refine g_tableIn (pc := 5) (tgt := 306) (off := 301) B dL_step_5 (by rw [c5v12]; decide) (by rw [c5v12]; decide) (by rw [c5v12]; decide +kernel) (by decide) ?_
                            refine g_sub (pc := 306) [0, 1, 3, 5, 6] rfl ?_
                            exact cb_L_step_L306 B ht hap h
                          · rw [if_neg c5v12] at h
                            by_cases c5v13 : (x4 - x4 / (16 : Int32) * (16 : Int32)) = (13 : Int32)
                            · rw [if_pos c5v13] at h
                              refine g_tableIn (pc := 5) (tgt := 407) (off := 402) B dL_step_5 (by rw [c5v13]; decide) (by rw [c5v13]; decide) (by rw [c5v13]; decide +kernel) (by decide) ?_
                              refine g_aload_n (pc := 407) B dL_step_407 1 rfl ?_
                              refine g_iconst (pc := 408) B dL_step_408 (5 : Int32) (by decide) ?_
                              obtain ⟨c409, h⟩ := chk h
                              refine gp_iald (pc := 409) (P := X) B hap c409 dL_step_409 ?_
                              refine g_if_ne (pc := 410) (tgt := 417) B dL_step_410 (by decide) (fun c410 => ?_) (fun c410 => ?_)
                              · rw [if_neg c410] at h
                                refine g_iload (pc := 417) B dL_step_417 5 rfl ?_
                                refine g_aload_n (pc := 419) B dL_step_419 1 rfl ?_
                                refine g_iconst (pc := 420) B dL_step_420 (5 : Int32) (by decide) ?_
                                obtain ⟨c421, h⟩ := chk h
                                refine gp_iald (pc := 421) (P := X) B hap c421 dL_step_421 ?_
                                obtain ⟨c422, h⟩ := chkN h
                                refine g_irem (pc := 422) B dL_step_422 c422 ?_
                                refine g_sub (pc := 423) [0, 1, 3, 6] rfl ?_
                                exact cb_L_step_L423 B ht hap h
                              · rw [if_pos c410] at h
                                refine g_iconst (pc := 413) B dL_step_413 (0 : Int32) (by decide) ?_
                                refine g_goto (pc := 414) (tgt := 423) B dL_step_414 (by decide) ?_
                                refine g_sub (pc := 423) [0, 1, 3, 6] rfl ?_
                                exact cb_L_step_L423 B ht hap h
                            · rw [if_neg c5v13] at h
                              by_cases c5v14 : (x4 - x4 / (16 : Int32) * (16 : Int32)) = (14 : Int32)
                              · rw [if_pos c5v14] at h
                                refine g_tableIn (pc := 5) (tgt := 500) (off := 495) B dL_step_5 (by rw [c5v14]; decide) (by rw [c5v14]; decide) (by rw [c5v14]; decide +kernel) (by decide) ?_
                                refine g_aload_n (pc := 500) B dL_step_500 1 rfl ?_
                                refine g_bipush (pc := 501) B dL_step_501 (6 : Int32) (by decide) ?_
                                refine g_iconst (pc := 503) B dL_step_503 (1 : Int32) (by decide) ?_
                                refine g_iload (pc := 504) B dL_step_504 5 rfl ?_
                                refine g_bipush (pc := 506) B dL_step_506 (40 : Int32) (by decide) ?_
                                refine g_irem (pc := 508) B dL_step_508 (by decide) ?_
                                refine g_iadd (pc := 509) B dL_step_509 ?_
                                obtain ⟨c510, h⟩ := chk h
                                refine gp_iast (pc := 510) (P := X) B hap c510 dL_step_510 ?_
                                refine g_aload_n (pc := 511) B dL_step_511 1 rfl ?_
                                refine g_bipush (pc := 512) B dL_step_512 (7 : Int32) (by decide) ?_
                                refine g_iconst (pc := 514) B dL_step_514 (1 : Int32) (by decide) ?_
                                refine g_iload (pc := 515) B dL_step_515 6 rfl ?_
                                refine g_bipush (pc := 517) B dL_step_517 (40 : Int32) (by decide) ?_
                                refine g_irem (pc := 519) B dL_step_519 (by decide) ?_
                                refine g_iadd (pc := 520) B dL_step_520 ?_
                                obtain ⟨c521, h⟩ := chk h
                                refine gp_iast (pc := 521) (P := (X.1, (sI X.2 x1 (6 : Int32).toNatClampNeg ((1 : Int32) + (x5 - x5 / (40 : Int32) * (40 : Int32)))))) B hap c521 dL_step_521 ?_
                                refine g_iconst (pc := 522) B dL_step_522 (0 : Int32) (by decide) ?_
                                refine g_istore (pc := 523) (L' := [(9, vI (0 : Int32)), (0, vA (some x0)), (1, vA (some x1)), (2, vA (some x2)), (3, vA (some x3)), (4, vI x4), (5, vI x5), (6, vI x6)]) B dL_step_523 (by decide) rfl ?_
                                refine g_aload_n (pc := 525) B dL_step_525 1 rfl ?_
                                refine g_aload_n (pc := 526) B dL_step_526 2 rfl ?_
                                refine g_bipush (pc := 527) B dL_step_527 (6 : Int32) (by decide) ?_
                                obtain ⟨c529, h⟩ := chk h
                                refine gp_iald (pc := 529) (P := (X.1, (sI (sI X.2 x1 (6 : Int32).toNatClampNeg ((1 : Int32) + (x5 - x5 / (40 : Int32) * (40 : Int32)))) x1 (7 : Int32).toNatClampNeg ((1 : Int32) + (x6 - x6 / (40 : Int32) * (40 : Int32)))))) B hap c529 dL_step_529 ?_
                                refine g_aload_n (pc := 530) B dL_step_530 2 rfl ?_
                                refine g_bipush (pc := 531) B dL_step_531 (7 : Int32) (by decide) ?_
                                obtain ⟨c533, h⟩ := chk h
                                refine gp_iald (pc := 533) (P := (X.1, (sI (sI X.2 x1 (6 : Int32).toNatClampNeg ((1 : Int32) + (x5 - x5 / (40 : Int32) * (40 : Int32)))) x1 (7 : Int32).toNatClampNeg ((1 : Int32) + (x6 - x6 / (40 : Int32) * (40 : Int32)))))) B hap c533 dL_step_533 ?_
                                obtain ⟨k534_2, h⟩ := chk h
                                obtain ⟨v534, X534, e534, h⟩ := nTW_s h
                                obtain ⟨P534, eP534, h⟩ := ob h
                                obtain ⟨hap534, h⟩ := apC_s h
                                refine p_callVW (pc := 534) (P := (X.1, (sI (sI X.2 x1 (6 : Int32).toNatClampNeg ((1 : Int32) + (x5 - x5 / (40 : Int32) * (40 : Int32)))) x1 (7 : Int32).toNatClampNeg ((1 : Int32) + (x6 - x6 / (40 : Int32) * (40 : Int32)))))) (As := [vI (aI (sI (sI X.2 x1 (6 : Int32).toNatClampNeg ((1 : Int32) + (x5 - x5 / (40 : Int32) * (40 : Int32)))) x1 (7 : Int32).toNatClampNeg ((1 : Int32) + (x6 - x6 / (40 : Int32) * (40 : Int32)))) x1 (6 : Int32).toNatClampNeg), vI (aI (sI (sI X.2 x1 (6 : Int32).toNatClampNeg ((1 : Int32) + (x5 - x5 / (40 : Int32) * (40 : Int32)))) x1 (7 : Int32).toNatClampNeg ((1 : Int32) + (x6 - x6 / (40 : Int32) * (40 : Int32)))) x1 (7 : Int32).toNatClampNeg)]) (st := []) (st10 := [vI v534]) (cs' := 0) (sl' := 0) B cal_X11_setWall kmL_45 kn_X11_setWall ks_X11_setWall hap k534_2 rfl (fun l hl => ct_X11_setWall hl e534) eP534 rfl (Nat.le_of_ble_eq_true rfl) (by decide) (by decide) dL_step_534 rfl rfl rfl rfl ?_
                                refine g_istore (pc := 537) (L' := [(10, vI v534), (9, vI (0 : Int32)), (0, vA (some x0)), (1, vA (some x1)), (2, vA (some x2)), (3, vA (some x3)), (4, vI x4), (5, vI x5), (6, vI x6)]) B dL_step_537 (by decide) rfl ?_
                                refine g_iconst (pc := 539) B dL_step_539 (0 : Int32) (by decide) ?_
                                refine g_istore (pc := 540) (L' := [(11, vI (0 : Int32)), (10, vI v534), (9, vI (0 : Int32)), (0, vA (some x0)), (1, vA (some x1)), (2, vA (some x2)), (3, vA (some x3)), (4, vI x4), (5, vI x5), (6, vI x6)]) B dL_step_540 (by decide) rfl ?_
                                refine g_sub (pc := 542) [3, 4, 2, 1, 0] rfl ?_
                                exact cb_L_step_L542 B ht hap534 h
                              · rw [if_neg c5v14] at h
                                by_cases c5d : (x4 - x4 / (16 : Int32) * (16 : Int32)).toInt < 0 ∨ 14 < (x4 - x4 / (16 : Int32) * (16 : Int32)).toInt
                                · rw [if_pos c5d] at h
                                  refine g_tableOut (pc := 5) (tgt := 589) B dL_step_5 c5d (by decide) ?_
                                  refine g_iload (pc := 589) B dL_step_589 6 rfl ?_
                                  refine g_iconst (pc := 591) B dL_step_591 (3 : Int32) (by decide) ?_
                                  refine g_irem (pc := 592) B dL_step_592 (by decide) ?_
                                  refine g_if_le (pc := 593) (tgt := 620) B dL_step_593 (by decide) (fun c593 => ?_) (fun c593 => ?_)
                                  · rw [if_pos c593] at h
                                    refine g_sub (pc := 620) [0, 1] rfl ?_
                                    exact cb_L_step_L620 B ht hap h
                                  · rw [if_neg c593] at h
                                    refine g_aload_n (pc := 596) B dL_step_596 1 rfl ?_
                                    refine g_iconst (pc := 597) B dL_step_597 (0 : Int32) (by decide) ?_
                                    obtain ⟨c598, h⟩ := chk h
                                    refine gp_iald (pc := 598) (P := X) B hap c598 dL_step_598 ?_
                                    refine g_bipush (pc := 599) B dL_step_599 (25 : Int32) (by decide) ?_
                                    refine g_icmp_ge (pc := 601) (tgt := 620) B dL_step_601 (by decide) (fun c601 => ?_) (fun c601 => ?_)
                                    · rw [if_pos c601] at h
                                      refine g_sub (pc := 620) [0, 1] rfl ?_
                                      exact cb_L_step_L620 B ht hap h
                                    · rw [if_neg c601] at h
                                      refine g_aload_n (pc := 604) B dL_step_604 0 rfl ?_
                                      obtain ⟨k605_3, h⟩ := chk h
                                      obtain ⟨v605, e605, h⟩ := ob h
                                      refine p_callV (pc := 605) (P := X) (As := []) (st := []) (st10 := [vI v605]) (cs' := 0) (sl' := 0) B cal_X11_drafted kmL_52 kn_X11_drafted ks_X11_drafted hap k605_3 rfl (fun l hl => ct_X11_drafted hl e605) rfl (Nat.le_of_ble_eq_true rfl) (by decide) (by decide) dL_step_605 rfl rfl rfl rfl ?_
                                      refine g_aload_n (pc := 608) B dL_step_608 1 rfl ?_
                                      refine g_iconst (pc := 609) B dL_step_609 (0 : Int32) (by decide) ?_
                                      obtain ⟨c610, h⟩ := chk h
                                      refine gp_iald (pc := 610) (P := X) B hap c610 dL_step_610 ?_
                                      refine g_icmp_ne (pc := 611) (tgt := 618) B dL_step_611 (by decide) (fun c611 => ?_) (fun c611 => ?_)
                                      · rw [if_neg c611] at h
                                        refine g_iconst (pc := 618) B dL_step_618 (0 : Int32) (by decide) ?_
                                        obtain rfl := Option.some.inj h
                                        exact g_ret_Z (pc := 619) B rfl (Or.inl rfl) (by decide) (by decide) dL_step_619
                                      · rw [if_pos c611] at h
                                        refine g_iconst (pc := 614) B dL_step_614 (1 : Int32) (by decide) ?_
                                        refine g_goto (pc := 615) (tgt := 619) B dL_step_615 (by decide) ?_
                                        obtain rfl := Option.some.inj h
                                        exact g_ret_Z (pc := 619) B rfl (Or.inr rfl) (by decide) (by decide) dL_step_619
                                · rw [if_neg c5d] at h
                                  exact nomatch h
theorem ct_L_step {D : DD} {l : Launch} {X0 : LwP} {fu : Nat} {x0 : Nat} {x1 : Nat} {x2 : Nat} {x3 : Nat} {x4 : Int32} {x5 : Int32} {x6 : Int32} {r : Int32 × LwP} (hl : l.stackTraces = false) (hap : apM X0.1 X0.2) (h : fL_step fu X0 x0 x1 x2 x3 x4 x5 x6 = some r) : Ctr D l yL_step cL_step 12 (some .boolean) rmL_step [vA (some x0), vA (some x1), vA (some x2), vA (some x3), vI x4, vI x5, vI x6] (lM X0) (.inr (some (vI r.1))) (lM r.2) :=
  ctr_of hl (by decide +kernel) (Nat.le_of_ble_eq_true rfl) fun ev _ ht B => cb_L_step_L0 B ht hap h
set_option maxRecDepth 100000 in
set_option maxHeartbeats 4000000 in
theorem cb_L_isAlike_L196 {D : DD} {ev : EV} {X0 : LwP} {fu : Nat} {rec53 : Nat → Nat → Int32 → Int32 → Int32 → Int32 → Option (Int32)} {rec109 : Nat → Nat → Int32 → Int32 → Int32 → Int32 → Int32 → Int32 → Int32 → Option (Int32)} {x0 : Nat} {x1 : Nat} {x2 : Int32} {x3 : Int32} {x5 : Int32} {x6 : Int32} {x7 : Int32} {x8 : Int32} {s0 : Int32} {r : Int32} (B : Amb D (foot (lM X0)) ev RL "isAlike" cL_isAlike 9 (some .boolean) rmL_isAlike) (ht : Tb0 ev) (hap : apM X0.1 X0.2) (hrec53 : ∀ {x0 : Nat} {x1 : Nat} {x2 : Int32} {x3 : Int32} {x4 : Int32} {x5 : Int32} {r : Int32}, apM X0.1 X0.2 → rec53 x0 x1 x2 x3 x4 x5 = some r → Gd D (foot (lM X0)) ev (QF D ev (lM X0) (.inr (some (vI r))) (lM X0) rmL_isAlike) (lM X0) 0 0 53 [(0, vA (some x0)), (1, vA (some x1)), (2, vI x2), (3, vI x3), (4, vI x4), (5, vI x5)] []) (hrec109 : ∀ {x0 : Nat} {x1 : Nat} {x2 : Int32} {x3 : Int32} {x4 : Int32} {x5 : Int32} {x6 : Int32} {x7 : Int32} {x8 : Int32} {r : Int32}, apM X0.1 X0.2 → rec109 x0 x1 x2 x3 x4 x5 x6 x7 x8 = some r → Gd D (foot (lM X0)) ev (QF D ev (lM X0) (.inr (some (vI r))) (lM X0) rmL_isAlike) (lM X0) 0 0 109 [(0, vA (some x0)), (1, vA (some x1)), (2, vI x2), (3, vI x3), (4, vI x4), (5, vI x5), (6, vI x6), (7, vI x7), (8, vI x8)] []) (h : fL_isAlike_L196 fu X0 rec53 rec109 x0 x1 x2 x3 x5 x6 x7 x8 s0 = some r) : Gd D (foot (lM X0)) ev (QF D ev (lM X0) (.inr (some (vI r))) (lM X0) rmL_isAlike) (lM X0) 0 0 196 [(0, vA (some x0)), (1, vA (some x1)), (2, vI x2), (3, vI x3), (5, vI x5), (6, vI x6), (7, vI x7), (8, vI x8)] [vI s0] := by
  unfold fL_isAlike_L196 at h
  refine g_istore (pc := 196) (L' := [(4, vI s0), (0, vA (some x0)), (1, vA (some x1)), (2, vI x2), (3, vI x3), (5, vI x5), (6, vI x6), (7, vI x7), (8, vI x8)]) B dL_isAlike_196 (by decide) rfl ?_
  refine g_iinc (pc := 198) (v := (x8 + (1 : Int32))) (L' := [(8, vI (x8 + (1 : Int32))), (4, vI s0), (0, vA (some x0)), (1, vA (some x1)), (2, vI x2), (3, vI x3), (5, vI x5), (6, vI x6), (7, vI x7)]) B dL_isAlike_198 (by decide) 8 rfl rfl rfl ?_
  refine g_goto (pc := 201) (tgt := 109) B dL_isAlike_201 (by decide) ?_
  refine g_sub (pc := 109) [2, 3, 4, 5, 1, 6, 7, 8, 0] rfl ?_
  exact hrec109 hap h
set_option maxRecDepth 100000 in
set_option maxHeartbeats 4000000 in
theorem cb_L_isAlike_L195 {D : DD} {ev : EV} {X0 : LwP} {fu : Nat} {rec53 : Nat → Nat → Int32 → Int32 → Int32 → Int32 → Option (Int32)} {rec109 : Nat → Nat → Int32 → Int32 → Int32 → Int32 → Int32 → Int32 → Int32 → Option (Int32)} {x0 : Nat} {x1 : Nat} {x2 : Int32} {x3 : Int32} {x5 : Int32} {x6 : Int32} {x7 : Int32} {x8 : Int32} {r : Int32} (B : Amb D (foot (lM X0)) ev RL "isAlike" cL_isAlike 9 (some .boolean) rmL_isAlike) (ht : Tb0 ev) (hap : apM X0.1 X0.2) (hrec53 : ∀ {x0 : Nat} {x1 : Nat} {x2 : Int32} {x3 : Int32} {x4 : Int32} {x5 : Int32} {r : Int32}, apM X0.1 X0.2 → rec53 x0 x1 x2 x3 x4 x5 = some r → Gd D (foot (lM X0)) ev (QF D ev (lM X0) (.inr (some (vI r))) (lM X0) rmL_isAlike) (lM X0) 0 0 53 [(0, vA (some x0)), (1, vA (some x1)), (2, vI x2), (3, vI x3), (4, vI x4), (5, vI x5)] []) (hrec109 : ∀ {x0 : Nat} {x1 : Nat} {x2 : Int32} {x3 : Int32} {x4 : Int32} {x5 : Int32} {x6 : Int32} {x7 : Int32} {x8 : Int32} {r : Int32}, apM X0.1 X0.2 → rec109 x0 x1 x2 x3 x4 x5 x6 x7 x8 = some r → Gd D (foot (lM X0)) ev (QF D ev (lM X0) (.inr (some (vI r))) (lM X0) rmL_isAlike) (lM X0) 0 0 109 [(0, vA (some x0)), (1, vA (some x1)), (2, vI x2), (3, vI x3), (4, vI x4), (5, vI x5), (6, vI x6), (7, vI x7), (8, vI x8)] []) (h : fL_isAlike_L195 fu X0 rec53 rec109 x0 x1 x2 x3 x5 x6 x7 x8 = some r) : Gd D (foot (lM X0)) ev (QF D ev (lM X0) (.inr (some (vI r))) (lM X0) rmL_isAlike) (lM X0) 0 0 195 [(0, vA (some x0)), (1, vA (some x1)), (2, vI x2), (3, vI x3), (5, vI x5), (6, vI x6), (7, vI x7), (8, vI x8)] [] := by
  unfold fL_isAlike_L195 at h
  refine g_iconst (pc := 195) B dL_isAlike_195 (0 : Int32) (by decide) ?_
  refine g_sub (pc := 196) [0, 1, 2, 3, 4, 5, 6, 7] rfl ?_
  exact cb_L_isAlike_L196 B ht hap hrec53 hrec109 h
set_option maxRecDepth 100000 in
set_option maxHeartbeats 4000000 in
theorem cb_L_isAlike_L185 {D : DD} {ev : EV} {X0 : LwP} {fu : Nat} {rec53 : Nat → Nat → Int32 → Int32 → Int32 → Int32 → Option (Int32)} {rec109 : Nat → Nat → Int32 → Int32 → Int32 → Int32 → Int32 → Int32 → Int32 → Option (Int32)} {x0 : Nat} {x1 : Nat} {x2 : Int32} {x3 : Int32} {x5 : Int32} {x6 : Int32} {x7 : Int32} {x8 : Int32} {s0 : Int32} {s1 : Nat} {s2 : Int32} {s3 : Int32} {s4 : Int32} {s5 : Int32} {r : Int32} (B : Amb D (foot (lM X0)) ev RL "isAlike" cL_isAlike 9 (some .boolean) rmL_isAlike) (ht : Tb0 ev) (hap : apM X0.1 X0.2) (hrec53 : ∀ {x0 : Nat} {x1 : Nat} {x2 : Int32} {x3 : Int32} {x4 : Int32} {x5 : Int32} {r : Int32}, apM X0.1 X0.2 → rec53 x0 x1 x2 x3 x4 x5 = some r → Gd D (foot (lM X0)) ev (QF D ev (lM X0) (.inr (some (vI r))) (lM X0) rmL_isAlike) (lM X0) 0 0 53 [(0, vA (some x0)), (1, vA (some x1)), (2, vI x2), (3, vI x3), (4, vI x4), (5, vI x5)] []) (hrec109 : ∀ {x0 : Nat} {x1 : Nat} {x2 : Int32} {x3 : Int32} {x4 : Int32} {x5 : Int32} {x6 : Int32} {x7 : Int32} {x8 : Int32} {r : Int32}, apM X0.1 X0.2 → rec109 x0 x1 x2 x3 x4 x5 x6 x7 x8 = some r → Gd D (foot (lM X0)) ev (QF D ev (lM X0) (.inr (some (vI r))) (lM X0) rmL_isAlike) (lM X0) 0 0 109 [(0, vA (some x0)), (1, vA (some x1)), (2, vI x2), (3, vI x3), (4, vI x4), (5, vI x5), (6, vI x6), (7, vI x7), (8, vI x8)] []) (h : fL_isAlike_L185 fu X0 rec53 rec109 x0 x1 x2 x3 x5 x6 x7 x8 s0 s1 s2 s3 s4 s5 = some r) : Gd D (foot (lM X0)) ev (QF D ev (lM X0) (.inr (some (vI r))) (lM X0) rmL_isAlike) (lM X0) 0 0 185 [(0, vA (some x0)), (1, vA (some x1)), (2, vI x2), (3, vI x3), (5, vI x5), (6, vI x6), (7, vI x7), (8, vI x8)] [vI s5, vI s4, vI s3, vI s2, vA (some s1), vI s0] := by
  unfold fL_isAlike_L185 at h
  obtain ⟨k185_1, h⟩ := chk h
  obtain ⟨v185, e185, h⟩ := nT_s h
  refine p_callV (pc := 185) (P := X0) (As := [vI s2, vI s3, vI s4, vI s5]) (st := [vI s0]) (st10 := [vI v185, vI s0]) (cs' := 0) (sl' := 0) B cal_X11_isDrawn kmL_99 kn_X11_isDrawn ks_X11_isDrawn hap k185_1 rfl (fun l hl => ct_X11_isDrawn hl e185) rfl (Nat.le_of_ble_eq_true rfl) (by decide) (by decide) dL_isAlike_185 rfl rfl rfl rfl ?_
  refine g_icmp_ne (pc := 188) (tgt := 195) B dL_isAlike_188 (by decide) (fun c188 => ?_) (fun c188 => ?_)
  · rw [if_neg c188] at h
    refine g_sub (pc := 195) [0, 1, 2, 3, 4, 5, 6, 7] rfl ?_
    exact cb_L_isAlike_L195 B ht hap hrec53 hrec109 h
  · rw [if_pos c188] at h
    refine g_iconst (pc := 191) B dL_isAlike_191 (1 : Int32) (by decide) ?_
    refine g_goto (pc := 192) (tgt := 196) B dL_isAlike_192 (by decide) ?_
    refine g_sub (pc := 196) [0, 1, 2, 3, 4, 5, 6, 7] rfl ?_
    exact cb_L_isAlike_L196 B ht hap hrec53 hrec109 h
set_option maxRecDepth 100000 in
set_option maxHeartbeats 4000000 in
theorem cb_L_isAlike_L151 {D : DD} {ev : EV} {X0 : LwP} {fu : Nat} {rec53 : Nat → Nat → Int32 → Int32 → Int32 → Int32 → Option (Int32)} {rec109 : Nat → Nat → Int32 → Int32 → Int32 → Int32 → Int32 → Int32 → Int32 → Option (Int32)} {x0 : Nat} {x1 : Nat} {x2 : Int32} {x3 : Int32} {x5 : Int32} {x6 : Int32} {x7 : Int32} {x8 : Int32} {s0 : Nat} {s1 : Int32} {s2 : Int32} {s3 : Int32} {s4 : Int32} {r : Int32} (B : Amb D (foot (lM X0)) ev RL "isAlike" cL_isAlike 9 (some .boolean) rmL_isAlike) (ht : Tb0 ev) (hap : apM X0.1 X0.2) (hrec53 : ∀ {x0 : Nat} {x1 : Nat} {x2 : Int32} {x3 : Int32} {x4 : Int32} {x5 : Int32} {r : Int32}, apM X0.1 X0.2 → rec53 x0 x1 x2 x3 x4 x5 = some r → Gd D (foot (lM X0)) ev (QF D ev (lM X0) (.inr (some (vI r))) (lM X0) rmL_isAlike) (lM X0) 0 0 53 [(0, vA (some x0)), (1, vA (some x1)), (2, vI x2), (3, vI x3), (4, vI x4), (5, vI x5)] []) (hrec109 : ∀ {x0 : Nat} {x1 : Nat} {x2 : Int32} {x3 : Int32} {x4 : Int32} {x5 : Int32} {x6 : Int32} {x7 : Int32} {x8 : Int32} {r : Int32}, apM X0.1 X0.2 → rec109 x0 x1 x2 x3 x4 x5 x6 x7 x8 = some r → Gd D (foot (lM X0)) ev (QF D ev (lM X0) (.inr (some (vI r))) (lM X0) rmL_isAlike) (lM X0) 0 0 109 [(0, vA (some x0)), (1, vA (some x1)), (2, vI x2), (3, vI x3), (4, vI x4), (5, vI x5), (6, vI x6), (7, vI x7), (8, vI x8)] []) (h : fL_isAlike_L151 fu X0 rec53 rec109 x0 x1 x2 x3 x5 x6 x7 x8 s0 s1 s2 s3 s4 = some r) : Gd D (foot (lM X0)) ev (QF D ev (lM X0) (.inr (some (vI r))) (lM X0) rmL_isAlike) (lM X0) 0 0 151 [(0, vA (some x0)), (1, vA (some x1)), (2, vI x2), (3, vI x3), (5, vI x5), (6, vI x6), (7, vI x7), (8, vI x8)] [vI s4, vI s3, vI s2, vI s1, vA (some s0)] := by
  unfold fL_isAlike_L151 at h
  obtain ⟨k151_1, h⟩ := chk h
  obtain ⟨v151, e151, h⟩ := nT_s h
  refine p_callV (pc := 151) (P := X0) (As := [vI s1, vI s2, vI s3, vI s4]) (st := []) (st10 := [vI v151]) (cs' := 0) (sl' := 0) B cal_X11_isDrawn kmL_99 kn_X11_isDrawn ks_X11_isDrawn hap k151_1 rfl (fun l hl => ct_X11_isDrawn hl e151) rfl (Nat.le_of_ble_eq_true rfl) (by decide) (by decide) dL_isAlike_151 rfl rfl rfl rfl ?_
  refine g_aload_n (pc := 154) B dL_isAlike_154 0 rfl ?_
  refine g_iload_n (pc := 155) B dL_isAlike_155 3 rfl ?_
  refine g_aload_n (pc := 156) B dL_isAlike_156 1 rfl ?_
  refine g_bipush (pc := 157) B dL_isAlike_157 (20 : Int32) (by decide) ?_
  refine g_iload_n (pc := 159) B dL_isAlike_159 3 rfl ?_
  refine g_iadd (pc := 160) B dL_isAlike_160 ?_
  obtain ⟨c161, h⟩ := chk h
  refine gp_iald (pc := 161) (P := X0) B hap c161 dL_isAlike_161 ?_
  refine g_iload (pc := 162) B dL_isAlike_162 5 rfl ?_
  refine g_iadd (pc := 164) B dL_isAlike_164 ?_
  refine g_aload_n (pc := 165) B dL_isAlike_165 1 rfl ?_
  refine g_bipush (pc := 166) B dL_isAlike_166 (30 : Int32) (by decide) ?_
  refine g_iload_n (pc := 168) B dL_isAlike_168 3 rfl ?_
  refine g_iadd (pc := 169) B dL_isAlike_169 ?_
  obtain ⟨c170, h⟩ := chk h
  refine gp_iald (pc := 170) (P := X0) B hap c170 dL_isAlike_170 ?_
  refine g_iload (pc := 171) B dL_isAlike_171 6 rfl ?_
  refine g_iadd (pc := 173) B dL_isAlike_173 ?_
  refine g_iload (pc := 174) B dL_isAlike_174 7 rfl ?_
  refine g_iconst (pc := 176) B dL_isAlike_176 (1 : Int32) (by decide) ?_
  refine g_icmp_ne (pc := 177) (tgt := 184) B dL_isAlike_177 (by decide) (fun c177 => ?_) (fun c177 => ?_)
  · rw [if_neg c177] at h
    refine g_iconst (pc := 184) B dL_isAlike_184 (0 : Int32) (by decide) ?_
    refine g_sub (pc := 185) [0, 1, 2, 3, 4, 5, 6, 7] rfl ?_
    exact cb_L_isAlike_L185 B ht hap hrec53 hrec109 h
  · rw [if_pos c177] at h
    refine g_iconst (pc := 180) B dL_isAlike_180 (1 : Int32) (by decide) ?_
    refine g_goto (pc := 181) (tgt := 185) B dL_isAlike_181 (by decide) ?_
    refine g_sub (pc := 185) [0, 1, 2, 3, 4, 5, 6, 7] rfl ?_
    exact cb_L_isAlike_L185 B ht hap hrec53 hrec109 h
set_option maxRecDepth 100000 in
set_option maxHeartbeats 4000000 in
theorem cb_L_isAlike_L109b {D : DD} {ev : EV} {X0 : LwP} {fu : Nat} {rec53 : Nat → Nat → Int32 → Int32 → Int32 → Int32 → Option (Int32)} {rec109 : Nat → Nat → Int32 → Int32 → Int32 → Int32 → Int32 → Int32 → Int32 → Option (Int32)} {x0 : Nat} {x1 : Nat} {x2 : Int32} {x3 : Int32} {x4 : Int32} {x5 : Int32} {x6 : Int32} {x7 : Int32} {x8 : Int32} {r : Int32} (B : Amb D (foot (lM X0)) ev RL "isAlike" cL_isAlike 9 (some .boolean) rmL_isAlike) (ht : Tb0 ev) (hap : apM X0.1 X0.2) (hrec53 : ∀ {x0 : Nat} {x1 : Nat} {x2 : Int32} {x3 : Int32} {x4 : Int32} {x5 : Int32} {r : Int32}, apM X0.1 X0.2 → rec53 x0 x1 x2 x3 x4 x5 = some r → Gd D (foot (lM X0)) ev (QF D ev (lM X0) (.inr (some (vI r))) (lM X0) rmL_isAlike) (lM X0) 0 0 53 [(0, vA (some x0)), (1, vA (some x1)), (2, vI x2), (3, vI x3), (4, vI x4), (5, vI x5)] []) (hrec109 : ∀ {x0 : Nat} {x1 : Nat} {x2 : Int32} {x3 : Int32} {x4 : Int32} {x5 : Int32} {x6 : Int32} {x7 : Int32} {x8 : Int32} {r : Int32}, apM X0.1 X0.2 → rec109 x0 x1 x2 x3 x4 x5 x6 x7 x8 = some r → Gd D (foot (lM X0)) ev (QF D ev (lM X0) (.inr (some (vI r))) (lM X0) rmL_isAlike) (lM X0) 0 0 109 [(0, vA (some x0)), (1, vA (some x1)), (2, vI x2), (3, vI x3), (4, vI x4), (5, vI x5), (6, vI x6), (7, vI x7), (8, vI x8)] []) (h : fL_isAlike_L109b fu X0 rec53 rec109 x0 x1 x2 x3 x4 x5 x6 x7 x8 = some r) : Gd D (foot (lM X0)) ev (QF D ev (lM X0) (.inr (some (vI r))) (lM X0) rmL_isAlike) (lM X0) 0 0 109 [(0, vA (some x0)), (1, vA (some x1)), (2, vI x2), (3, vI x3), (4, vI x4), (5, vI x5), (6, vI x6), (7, vI x7), (8, vI x8)] [] := by
  unfold fL_isAlike_L109b at h
  refine g_iload (pc := 109) B dL_isAlike_109 8 rfl ?_
  refine g_iconst (pc := 111) B dL_isAlike_111 (2 : Int32) (by decide) ?_
  refine g_icmp_ge (pc := 112) (tgt := 204) B dL_isAlike_112 (by decide) (fun c112 => ?_) (fun c112 => ?_)
  · rw [if_pos c112] at h
    refine g_iinc (pc := 204) (v := (x5 + (1 : Int32))) (L' := [(5, vI (x5 + (1 : Int32))), (0, vA (some x0)), (1, vA (some x1)), (2, vI x2), (3, vI x3), (4, vI x4), (6, vI x6), (7, vI x7), (8, vI x8)]) B dL_isAlike_204 (by decide) 5 rfl rfl rfl ?_
    refine g_goto (pc := 207) (tgt := 53) B dL_isAlike_207 (by decide) ?_
    refine g_sub (pc := 53) [1, 2, 3, 4, 5, 0] rfl ?_
    exact hrec53 hap h
  · rw [if_neg c112] at h
    refine g_iload (pc := 115) B dL_isAlike_115 4 rfl ?_
    refine g_if_eq (pc := 117) (tgt := 195) B dL_isAlike_117 (by decide) (fun c117 => ?_) (fun c117 => ?_)
    · rw [if_pos c117] at h
      refine g_sub (pc := 195) [0, 1, 2, 3, 5, 6, 7, 8] rfl ?_
      exact cb_L_isAlike_L195 B ht hap hrec53 hrec109 h
    · rw [if_neg c117] at h
      refine g_aload_n (pc := 120) B dL_isAlike_120 0 rfl ?_
      refine g_iload_n (pc := 121) B dL_isAlike_121 2 rfl ?_
      refine g_aload_n (pc := 122) B dL_isAlike_122 1 rfl ?_
      refine g_bipush (pc := 123) B dL_isAlike_123 (20 : Int32) (by decide) ?_
      refine g_iload_n (pc := 125) B dL_isAlike_125 2 rfl ?_
      refine g_iadd (pc := 126) B dL_isAlike_126 ?_
      obtain ⟨c127, h⟩ := chk h
      refine gp_iald (pc := 127) (P := X0) B hap c127 dL_isAlike_127 ?_
      refine g_iload (pc := 128) B dL_isAlike_128 6 rfl ?_
      refine g_iadd (pc := 130) B dL_isAlike_130 ?_
      refine g_aload_n (pc := 131) B dL_isAlike_131 1 rfl ?_
      refine g_bipush (pc := 132) B dL_isAlike_132 (30 : Int32) (by decide) ?_
      refine g_iload_n (pc := 134) B dL_isAlike_134 2 rfl ?_
      refine g_iadd (pc := 135) B dL_isAlike_135 ?_
      obtain ⟨c136, h⟩ := chk h
      refine gp_iald (pc := 136) (P := X0) B hap c136 dL_isAlike_136 ?_
      refine g_iload (pc := 137) B dL_isAlike_137 7 rfl ?_
      refine g_iadd (pc := 139) B dL_isAlike_139 ?_
      refine g_iload (pc := 140) B dL_isAlike_140 8 rfl ?_
      refine g_iconst (pc := 142) B dL_isAlike_142 (1 : Int32) (by decide) ?_
      refine g_icmp_ne (pc := 143) (tgt := 150) B dL_isAlike_143 (by decide) (fun c143 => ?_) (fun c143 => ?_)
      · rw [if_neg c143] at h
        refine g_iconst (pc := 150) B dL_isAlike_150 (0 : Int32) (by decide) ?_
        refine g_sub (pc := 151) [0, 1, 2, 3, 5, 6, 7, 8] rfl ?_
        exact cb_L_isAlike_L151 B ht hap hrec53 hrec109 h
      · rw [if_pos c143] at h
        refine g_iconst (pc := 146) B dL_isAlike_146 (1 : Int32) (by decide) ?_
        refine g_goto (pc := 147) (tgt := 151) B dL_isAlike_147 (by decide) ?_
        refine g_sub (pc := 151) [0, 1, 2, 3, 5, 6, 7, 8] rfl ?_
        exact cb_L_isAlike_L151 B ht hap hrec53 hrec109 h
theorem cb_L_isAlike_L109n {D : DD} {ev : EV} {X0 : LwP} {fu : Nat} {rec53 : Nat → Nat → Int32 → Int32 → Int32 → Int32 → Option (Int32)} (B : Amb D (foot (lM X0)) ev RL "isAlike" cL_isAlike 9 (some .boolean) rmL_isAlike) (ht : Tb0 ev) (hrec53 : ∀ {x0 : Nat} {x1 : Nat} {x2 : Int32} {x3 : Int32} {x4 : Int32} {x5 : Int32} {r : Int32}, apM X0.1 X0.2 → rec53 x0 x1 x2 x3 x4 x5 = some r → Gd D (foot (lM X0)) ev (QF D ev (lM X0) (.inr (some (vI r))) (lM X0) rmL_isAlike) (lM X0) 0 0 53 [(0, vA (some x0)), (1, vA (some x1)), (2, vI x2), (3, vI x3), (4, vI x4), (5, vI x5)] []) : ∀ (n : Nat) {x0 : Nat} {x1 : Nat} {x2 : Int32} {x3 : Int32} {x4 : Int32} {x5 : Int32} {x6 : Int32} {x7 : Int32} {x8 : Int32} {r : Int32}, apM X0.1 X0.2 → fL_isAlike_L109 fu X0 rec53 n x0 x1 x2 x3 x4 x5 x6 x7 x8 = some r → Gd D (foot (lM X0)) ev (QF D ev (lM X0) (.inr (some (vI r))) (lM X0) rmL_isAlike) (lM X0) 0 0 109 [(0, vA (some x0)), (1, vA (some x1)), (2, vI x2), (3, vI x3), (4, vI x4), (5, vI x5), (6, vI x6), (7, vI x7), (8, vI x8)] [] := by
  intro n
  induction n with
  | zero => intro x0 x1 x2 x3 x4 x5 x6 x7 x8 r hap h; exact nomatch h
  | succ n ih => intro x0 x1 x2 x3 x4 x5 x6 x7 x8 r hap h; exact cb_L_isAlike_L109b (fu := fu) B ht hap hrec53 (fun hap9 h9 => ih hap9 h9) h
theorem cb_L_isAlike_L109 {D : DD} {ev : EV} {X0 : LwP} {fu : Nat} {rec53 : Nat → Nat → Int32 → Int32 → Int32 → Int32 → Option (Int32)} {x0 : Nat} {x1 : Nat} {x2 : Int32} {x3 : Int32} {x4 : Int32} {x5 : Int32} {x6 : Int32} {x7 : Int32} {x8 : Int32} {n : Nat} {r : Int32} (B : Amb D (foot (lM X0)) ev RL "isAlike" cL_isAlike 9 (some .boolean) rmL_isAlike) (ht : Tb0 ev) (hap : apM X0.1 X0.2) (hrec53 : ∀ {x0 : Nat} {x1 : Nat} {x2 : Int32} {x3 : Int32} {x4 : Int32} {x5 : Int32} {r : Int32}, apM X0.1 X0.2 → rec53 x0 x1 x2 x3 x4 x5 = some r → Gd D (foot (lM X0)) ev (QF D ev (lM X0) (.inr (some (vI r))) (lM X0) rmL_isAlike) (lM X0) 0 0 53 [(0, vA (some x0)), (1, vA (some x1)), (2, vI x2), (3, vI x3), (4, vI x4), (5, vI x5)] []) (h : fL_isAlike_L109 fu X0 rec53 n x0 x1 x2 x3 x4 x5 x6 x7 x8 = some r) : Gd D (foot (lM X0)) ev (QF D ev (lM X0) (.inr (some (vI r))) (lM X0) rmL_isAlike) (lM X0) 0 0 109 [(0, vA (some x0)), (1, vA (some x1)), (2, vI x2), (3, vI x3), (4, vI x4), (5, vI x5), (6, vI x6), (7, vI x7), (8, vI x8)] [] := cb_L_isAlike_L109n B ht (fun hap9 h9 => hrec53 hap9 h9) n hap h
set_option maxRecDepth 100000 in
set_option maxHeartbeats 4000000 in
theorem cb_L_isAlike_L53b {D : DD} {ev : EV} {X0 : LwP} {fu : Nat} {rec53 : Nat → Nat → Int32 → Int32 → Int32 → Int32 → Option (Int32)} {x0 : Nat} {x1 : Nat} {x2 : Int32} {x3 : Int32} {x4 : Int32} {x5 : Int32} {r : Int32} (B : Amb D (foot (lM X0)) ev RL "isAlike" cL_isAlike 9 (some .boolean) rmL_isAlike) (ht : Tb0 ev) (hap : apM X0.1 X0.2) (hrec53 : ∀ {x0 : Nat} {x1 : Nat} {x2 : Int32} {x3 : Int32} {x4 : Int32} {x5 : Int32} {r : Int32}, apM X0.1 X0.2 → rec53 x0 x1 x2 x3 x4 x5 = some r → Gd D (foot (lM X0)) ev (QF D ev (lM X0) (.inr (some (vI r))) (lM X0) rmL_isAlike) (lM X0) 0 0 53 [(0, vA (some x0)), (1, vA (some x1)), (2, vI x2), (3, vI x3), (4, vI x4), (5, vI x5)] []) (h : fL_isAlike_L53b fu X0 rec53 x0 x1 x2 x3 x4 x5 = some r) : Gd D (foot (lM X0)) ev (QF D ev (lM X0) (.inr (some (vI r))) (lM X0) rmL_isAlike) (lM X0) 0 0 53 [(0, vA (some x0)), (1, vA (some x1)), (2, vI x2), (3, vI x3), (4, vI x4), (5, vI x5)] [] := by
  unfold fL_isAlike_L53b at h
  refine g_iload (pc := 53) B dL_isAlike_53 5 rfl ?_
  refine g_aload_n (pc := 55) B dL_isAlike_55 1 rfl ?_
  refine g_bipush (pc := 56) B dL_isAlike_56 (40 : Int32) (by decide) ?_
  refine g_iload_n (pc := 58) B dL_isAlike_58 2 rfl ?_
  refine g_iadd (pc := 59) B dL_isAlike_59 ?_
  obtain ⟨c60, h⟩ := chk h
  refine gp_iald (pc := 60) (P := X0) B hap c60 dL_isAlike_60 ?_
  refine g_iconst (pc := 61) B dL_isAlike_61 (1 : Int32) (by decide) ?_
  refine g_iadd (pc := 62) B dL_isAlike_62 ?_
  refine g_aload_n (pc := 63) B dL_isAlike_63 1 rfl ?_
  refine g_bipush (pc := 64) B dL_isAlike_64 (50 : Int32) (by decide) ?_
  refine g_iload_n (pc := 66) B dL_isAlike_66 2 rfl ?_
  refine g_iadd (pc := 67) B dL_isAlike_67 ?_
  obtain ⟨c68, h⟩ := chk h
  refine gp_iald (pc := 68) (P := X0) B hap c68 dL_isAlike_68 ?_
  refine g_iconst (pc := 69) B dL_isAlike_69 (1 : Int32) (by decide) ?_
  refine g_iadd (pc := 70) B dL_isAlike_70 ?_
  refine g_imul (pc := 71) B dL_isAlike_71 ?_
  refine g_icmp_ge (pc := 72) (tgt := 210) B dL_isAlike_72 (by decide) (fun c72 => ?_) (fun c72 => ?_)
  · rw [if_pos c72] at h
    refine g_iload (pc := 210) B dL_isAlike_210 4 rfl ?_
    obtain ⟨z212, h⟩ := chk h
    obtain rfl := Option.some.inj h
    exact g_ret_Z (pc := 212) B rfl z212 (by decide) (by decide) dL_isAlike_212
  · rw [if_neg c72] at h
    refine g_iload (pc := 75) B dL_isAlike_75 4 rfl ?_
    refine g_if_eq (pc := 77) (tgt := 210) B dL_isAlike_77 (by decide) (fun c77 => ?_) (fun c77 => ?_)
    · rw [if_pos c77] at h
      refine g_iload (pc := 210) B dL_isAlike_210 4 rfl ?_
      obtain ⟨z212, h⟩ := chk h
      obtain rfl := Option.some.inj h
      exact g_ret_Z (pc := 212) B rfl z212 (by decide) (by decide) dL_isAlike_212
    · rw [if_neg c77] at h
      refine g_iload (pc := 80) B dL_isAlike_80 5 rfl ?_
      refine g_aload_n (pc := 82) B dL_isAlike_82 1 rfl ?_
      refine g_bipush (pc := 83) B dL_isAlike_83 (40 : Int32) (by decide) ?_
      refine g_iload_n (pc := 85) B dL_isAlike_85 2 rfl ?_
      refine g_iadd (pc := 86) B dL_isAlike_86 ?_
      obtain ⟨c87, h⟩ := chk h
      refine gp_iald (pc := 87) (P := X0) B hap c87 dL_isAlike_87 ?_
      refine g_iconst (pc := 88) B dL_isAlike_88 (1 : Int32) (by decide) ?_
      refine g_iadd (pc := 89) B dL_isAlike_89 ?_
      obtain ⟨c90, h⟩ := chkN h
      refine g_irem (pc := 90) B dL_isAlike_90 c90 ?_
      refine g_istore (pc := 91) (L' := [(6, vI (x5 - x5 / ((aI X0.2 x1 ((40 : Int32) + x2).toNatClampNeg) + (1 : Int32)) * ((aI X0.2 x1 ((40 : Int32) + x2).toNatClampNeg) + (1 : Int32)))), (0, vA (some x0)), (1, vA (some x1)), (2, vI x2), (3, vI x3), (4, vI x4), (5, vI x5)]) B dL_isAlike_91 (by decide) rfl ?_
      refine g_iload (pc := 93) B dL_isAlike_93 6 rfl ?_
      refine g_aload_n (pc := 95) B dL_isAlike_95 2 rfl ?_
      refine g_bipush (pc := 96) B dL_isAlike_96 (40 : Int32) (by decide) ?_
      refine g_iload_n (pc := 98) B dL_isAlike_98 3 rfl ?_
      refine g_iadd (pc := 99) B dL_isAlike_99 ?_
      obtain ⟨c100, h⟩ := chk h
      refine gp_iald (pc := 100) (P := X0) B hap c100 dL_isAlike_100 ?_
      refine g_iconst (pc := 101) B dL_isAlike_101 (1 : Int32) (by decide) ?_
      refine g_iadd (pc := 102) B dL_isAlike_102 ?_
      obtain ⟨c103, h⟩ := chkN h
      refine g_idiv (pc := 103) B dL_isAlike_103 c103 ?_
      refine g_istore (pc := 104) (L' := [(7, vI (x5 / ((aI X0.2 x1 ((40 : Int32) + x2).toNatClampNeg) + (1 : Int32)))), (6, vI (x5 - x5 / ((aI X0.2 x1 ((40 : Int32) + x2).toNatClampNeg) + (1 : Int32)) * ((aI X0.2 x1 ((40 : Int32) + x2).toNatClampNeg) + (1 : Int32)))), (0, vA (some x0)), (1, vA (some x1)), (2, vI x2), (3, vI x3), (4, vI x4), (5, vI x5)]) B dL_isAlike_104 (by decide) rfl ?_
      refine g_iconst (pc := 106) B dL_isAlike_106 (0 : Int32) (by decide) ?_
      refine g_istore (pc := 107) (L' := [(8, vI (0 : Int32)), (7, vI (x5 / ((aI X0.2 x1 ((40 : Int32) + x2).toNatClampNeg) + (1 : Int32)))), (6, vI (x5 - x5 / ((aI X0.2 x1 ((40 : Int32) + x2).toNatClampNeg) + (1 : Int32)) * ((aI X0.2 x1 ((40 : Int32) + x2).toNatClampNeg) + (1 : Int32)))), (0, vA (some x0)), (1, vA (some x1)), (2, vI x2), (3, vI x3), (4, vI x4), (5, vI x5)]) B dL_isAlike_107 (by decide) rfl ?_
      refine g_sub (pc := 109) [3, 4, 5, 6, 7, 8, 2, 1, 0] rfl ?_
      exact cb_L_isAlike_L109 B ht hap hrec53 h
theorem cb_L_isAlike_L53n {D : DD} {ev : EV} {X0 : LwP} {fu : Nat} (B : Amb D (foot (lM X0)) ev RL "isAlike" cL_isAlike 9 (some .boolean) rmL_isAlike) (ht : Tb0 ev)  : ∀ (n : Nat) {x0 : Nat} {x1 : Nat} {x2 : Int32} {x3 : Int32} {x4 : Int32} {x5 : Int32} {r : Int32}, apM X0.1 X0.2 → fL_isAlike_L53 fu X0 n x0 x1 x2 x3 x4 x5 = some r → Gd D (foot (lM X0)) ev (QF D ev (lM X0) (.inr (some (vI r))) (lM X0) rmL_isAlike) (lM X0) 0 0 53 [(0, vA (some x0)), (1, vA (some x1)), (2, vI x2), (3, vI x3), (4, vI x4), (5, vI x5)] [] := by
  intro n
  induction n with
  | zero => intro x0 x1 x2 x3 x4 x5 r hap h; exact nomatch h
  | succ n ih => intro x0 x1 x2 x3 x4 x5 r hap h; exact cb_L_isAlike_L53b (fu := fu) B ht hap (fun hap9 h9 => ih hap9 h9) h
theorem cb_L_isAlike_L53 {D : DD} {ev : EV} {X0 : LwP} {fu : Nat} {x0 : Nat} {x1 : Nat} {x2 : Int32} {x3 : Int32} {x4 : Int32} {x5 : Int32} {n : Nat} {r : Int32} (B : Amb D (foot (lM X0)) ev RL "isAlike" cL_isAlike 9 (some .boolean) rmL_isAlike) (ht : Tb0 ev) (hap : apM X0.1 X0.2)  (h : fL_isAlike_L53 fu X0 n x0 x1 x2 x3 x4 x5 = some r) : Gd D (foot (lM X0)) ev (QF D ev (lM X0) (.inr (some (vI r))) (lM X0) rmL_isAlike) (lM X0) 0 0 53 [(0, vA (some x0)), (1, vA (some x1)), (2, vI x2), (3, vI x3), (4, vI x4), (5, vI x5)] [] := cb_L_isAlike_L53n B ht n hap h
set_option maxRecDepth 100000 in
set_option maxHeartbeats 4000000 in
theorem cb_L_isAlike_L48 {D : DD} {ev : EV} {X0 : LwP} {fu : Nat} {x0 : Nat} {x1 : Nat} {x2 : Int32} {x3 : Int32} {s0 : Int32} {r : Int32} (B : Amb D (foot (lM X0)) ev RL "isAlike" cL_isAlike 9 (some .boolean) rmL_isAlike) (ht : Tb0 ev) (hap : apM X0.1 X0.2)  (h : fL_isAlike_L48 fu X0 x0 x1 x2 x3 s0 = some r) : Gd D (foot (lM X0)) ev (QF D ev (lM X0) (.inr (some (vI r))) (lM X0) rmL_isAlike) (lM X0) 0 0 48 [(0, vA (some x0)), (1, vA (some x1)), (2, vI x2), (3, vI x3)] [vI s0] := by
  unfold fL_isAlike_L48 at h
  refine g_istore (pc := 48) (L' := [(4, vI s0), (0, vA (some x0)), (1, vA (some x1)), (2, vI x2), (3, vI x3)]) B dL_isAlike_48 (by decide) rfl ?_
  refine g_iconst (pc := 50) B dL_isAlike_50 (0 : Int32) (by decide) ?_
  refine g_istore (pc := 51) (L' := [(5, vI (0 : Int32)), (4, vI s0), (0, vA (some x0)), (1, vA (some x1)), (2, vI x2), (3, vI x3)]) B dL_isAlike_51 (by decide) rfl ?_
  refine g_sub (pc := 53) [2, 3, 4, 5, 1, 0] rfl ?_
  exact cb_L_isAlike_L53 B ht hap h
set_option maxRecDepth 100000 in
set_option maxHeartbeats 4000000 in
theorem cb_L_isAlike_L47 {D : DD} {ev : EV} {X0 : LwP} {fu : Nat} {x0 : Nat} {x1 : Nat} {x2 : Int32} {x3 : Int32} {r : Int32} (B : Amb D (foot (lM X0)) ev RL "isAlike" cL_isAlike 9 (some .boolean) rmL_isAlike) (ht : Tb0 ev) (hap : apM X0.1 X0.2)  (h : fL_isAlike_L47 fu X0 x0 x1 x2 x3 = some r) : Gd D (foot (lM X0)) ev (QF D ev (lM X0) (.inr (some (vI r))) (lM X0) rmL_isAlike) (lM X0) 0 0 47 [(0, vA (some x0)), (1, vA (some x1)), (2, vI x2), (3, vI x3)] [] := by
  unfold fL_isAlike_L47 at h
  refine g_iconst (pc := 47) B dL_isAlike_47 (0 : Int32) (by decide) ?_
  refine g_sub (pc := 48) [0, 1, 2, 3] rfl ?_
  exact cb_L_isAlike_L48 B ht hap h
set_option maxRecDepth 100000 in
set_option maxHeartbeats 4000000 in
theorem cb_L_isAlike_L0 {D : DD} {ev : EV} {X0 : LwP} {fu : Nat} {x0 : Nat} {x1 : Nat} {x2 : Int32} {x3 : Int32} {r : Int32} (B : Amb D (foot (lM X0)) ev RL "isAlike" cL_isAlike 9 (some .boolean) rmL_isAlike) (ht : Tb0 ev) (hap : apM X0.1 X0.2)  (h : fL_isAlike fu X0 x0 x1 x2 x3 = some r) : Gd D (foot (lM X0)) ev (QF D ev (lM X0) (.inr (some (vI r))) (lM X0) rmL_isAlike) (lM X0) 0 0 0 [(0, vA (some x0)), (1, vA (some x1)), (2, vI x2), (3, vI x3)] [] := by
  unfold fL_isAlike at h
  refine g_aload_n (pc := 0) B dL_isAlike_0 0 rfl ?_
  refine g_iload_n (pc := 1) B dL_isAlike_1 2 rfl ?_
  obtain ⟨k2_1, h⟩ := chk h
  obtain ⟨v2, e2, h⟩ := nT_s h
  refine p_callV (pc := 2) (P := X0) (As := [vI x2]) (st := []) (st10 := [vI v2]) (cs' := 0) (sl' := 0) B cal_X11_strokes kmL_106 kn_X11_strokes ks_X11_strokes hap k2_1 rfl (fun l hl => ct_X11_strokes hl e2) rfl (Nat.le_of_ble_eq_true rfl) (by decide) (by decide) dL_isAlike_2 rfl rfl rfl rfl ?_
  refine g_aload_n (pc := 5) B dL_isAlike_5 0 rfl ?_
  refine g_iload_n (pc := 6) B dL_isAlike_6 3 rfl ?_
  obtain ⟨v7, e7, h⟩ := nT_s h
  refine p_callV (pc := 7) (P := X0) (As := [vI x3]) (st := [vI v2]) (st10 := [vI v7, vI v2]) (cs' := 0) (sl' := 0) B cal_X11_strokes kmL_106 kn_X11_strokes ks_X11_strokes hap k2_1 rfl (fun l hl => ct_X11_strokes hl e7) rfl (Nat.le_of_ble_eq_true rfl) (by decide) (by decide) dL_isAlike_7 rfl rfl rfl rfl ?_
  refine g_icmp_ne (pc := 10) (tgt := 47) B dL_isAlike_10 (by decide) (fun c10 => ?_) (fun c10 => ?_)
  · rw [if_neg c10] at h
    refine g_sub (pc := 47) [0, 1, 2, 3] rfl ?_
    exact cb_L_isAlike_L47 B ht hap h
  · rw [if_pos c10] at h
    refine g_aload_n (pc := 13) B dL_isAlike_13 1 rfl ?_
    refine g_bipush (pc := 14) B dL_isAlike_14 (40 : Int32) (by decide) ?_
    refine g_iload_n (pc := 16) B dL_isAlike_16 2 rfl ?_
    refine g_iadd (pc := 17) B dL_isAlike_17 ?_
    obtain ⟨c18, h⟩ := chk h
    refine gp_iald (pc := 18) (P := X0) B hap c18 dL_isAlike_18 ?_
    refine g_aload_n (pc := 19) B dL_isAlike_19 1 rfl ?_
    refine g_bipush (pc := 20) B dL_isAlike_20 (40 : Int32) (by decide) ?_
    refine g_iload_n (pc := 22) B dL_isAlike_22 3 rfl ?_
    refine g_iadd (pc := 23) B dL_isAlike_23 ?_
    obtain ⟨c24, h⟩ := chk h
    refine gp_iald (pc := 24) (P := X0) B hap c24 dL_isAlike_24 ?_
    refine g_icmp_ne (pc := 25) (tgt := 47) B dL_isAlike_25 (by decide) (fun c25 => ?_) (fun c25 => ?_)
    · rw [if_neg c25] at h
      refine g_sub (pc := 47) [0, 1, 2, 3] rfl ?_
      exact cb_L_isAlike_L47 B ht hap h
    · rw [if_pos c25] at h
      refine g_aload_n (pc := 28) B dL_isAlike_28 1 rfl ?_
      refine g_bipush (pc := 29) B dL_isAlike_29 (50 : Int32) (by decide) ?_
      refine g_iload_n (pc := 31) B dL_isAlike_31 2 rfl ?_
      refine g_iadd (pc := 32) B dL_isAlike_32 ?_
      obtain ⟨c33, h⟩ := chk h
      refine gp_iald (pc := 33) (P := X0) B hap c33 dL_isAlike_33 ?_
      refine g_aload_n (pc := 34) B dL_isAlike_34 1 rfl ?_
      refine g_bipush (pc := 35) B dL_isAlike_35 (50 : Int32) (by decide) ?_
      refine g_iload_n (pc := 37) B dL_isAlike_37 3 rfl ?_
      refine g_iadd (pc := 38) B dL_isAlike_38 ?_
      obtain ⟨c39, h⟩ := chk h
      refine gp_iald (pc := 39) (P := X0) B hap c39 dL_isAlike_39 ?_
      refine g_icmp_ne (pc := 40) (tgt := 47) B dL_isAlike_40 (by decide) (fun c40 => ?_) (fun c40 => ?_)
      · rw [if_neg c40] at h
        refine g_sub (pc := 47) [0, 1, 2, 3] rfl ?_
        exact cb_L_isAlike_L47 B ht hap h
      · rw [if_pos c40] at h
        refine g_iconst (pc := 43) B dL_isAlike_43 (1 : Int32) (by decide) ?_
        refine g_goto (pc := 44) (tgt := 48) B dL_isAlike_44 (by decide) ?_
        refine g_sub (pc := 48) [0, 1, 2, 3] rfl ?_
        exact cb_L_isAlike_L48 B ht hap h
theorem ct_L_isAlike {D : DD} {l : Launch} {X0 : LwP} {fu : Nat} {x0 : Nat} {x1 : Nat} {x2 : Int32} {x3 : Int32} {r : Int32} (hl : l.stackTraces = false) (hap : apM X0.1 X0.2) (h : fL_isAlike fu X0 x0 x1 x2 x3 = some r) : Ctr D l yL_isAlike cL_isAlike 9 (some .boolean) rmL_isAlike [vA (some x0), vA (some x1), vI x2, vI x3] (lM X0) (.inr (some (vI r))) (lM X0) :=
  ctr_of hl (by decide +kernel) (Nat.le_of_ble_eq_true rfl) fun ev _ ht B => cb_L_isAlike_L0 B ht hap h
set_option maxRecDepth 100000 in
set_option maxHeartbeats 4000000 in
theorem cb_L_areTwo_L83 {D : DD} {ev : EV} {X0 : LwP} {fu : Nat} {X : LwP} {x0 : Nat} {x1 : Nat} {x2 : Int32} {x3 : Int32} {s0 : Int32} {r : Int32 × LwP} (B : Amb D (foot (lM X0)) ev RL "areTwo" cL_areTwo 7 (some .boolean) rmL_areTwo) (ht : Tb0 ev) (hap : apM X.1 X.2)  (h : fL_areTwo_L83 fu X x0 x1 x2 x3 s0 = some r) : Gd D (foot (lM X0)) ev (QF D ev (lM X0) (.inr (some (vI r.1))) (lM r.2) rmL_areTwo) (lM X) 0 0 83 [(0, vA (some x0)), (1, vA (some x1)), (2, vI x2), (3, vI x3)] [vI s0] := by
  unfold fL_areTwo_L83 at h
  refine g_istore (pc := 83) (L' := [(6, vI s0), (0, vA (some x0)), (1, vA (some x1)), (2, vI x2), (3, vI x3)]) B dL_areTwo_83 (by decide) rfl ?_
  refine g_iload (pc := 85) B dL_areTwo_85 0 rfl ?_
  refine g_if_eq (pc := 87) (tgt := 119) B dL_areTwo_87 (by decide) (fun c87 => ?_) (fun c87 => ?_)
  · rw [if_pos c87] at h
    refine g_iconst (pc := 119) B dL_areTwo_119 (0 : Int32) (by decide) ?_
    obtain rfl := Option.some.inj h
    exact g_ret_Z (pc := 120) B rfl (Or.inl rfl) (by decide) (by decide) dL_areTwo_120
  · rw [if_neg c87] at h
    refine g_aload_n (pc := 90) B dL_areTwo_90 1 rfl ?_
    refine g_iload_n (pc := 91) B dL_areTwo_91 3 rfl ?_
    refine g_iload_n (pc := 92) B dL_areTwo_92 4 rfl ?_
    obtain ⟨k93_1, h⟩ := chk h
    obtain ⟨v93, e93, h⟩ := nT_s h
    refine p_callV (pc := 93) (P := X) (As := [vI x2, vI x3]) (st := []) (st10 := [vI v93]) (cs' := 0) (sl' := 0) B cal_X11_areAlike kmL_122 kn_X11_areAlike ks_X11_areAlike hap k93_1 rfl (fun l hl => ct_X11_areAlike hl e93) rfl (Nat.le_of_ble_eq_true rfl) (by decide) (by decide) dL_areTwo_93 rfl rfl rfl rfl ?_
    refine g_aload_n (pc := 96) B dL_areTwo_96 1 rfl ?_
    refine g_aload_n (pc := 97) B dL_areTwo_97 2 rfl ?_
    refine g_iload_n (pc := 98) B dL_areTwo_98 3 rfl ?_
    refine g_iload_n (pc := 99) B dL_areTwo_99 4 rfl ?_
    obtain ⟨v100, e100, h⟩ := ob h
    refine h_callS (pc := 100) (As := [vA (some x0), vA (some x1), vI x2, vI x3]) (st := [vI v93]) (X' := (lM X)) (cs' := 0) (sl' := 0) (st10 := [vI v100, vI v93]) B cal_L_isAlike kmL_125 kz_L_isAlike (fun l hl => ct_L_isAlike (X0 := X) hl hap e100) rfl (Nat.le_of_ble_eq_true rfl) (by decide) (by decide) dL_areTwo_100 rfl rfl rfl rfl ?_
    refine g_icmp_ne (pc := 103) (tgt := 119) B dL_areTwo_103 (by decide) (fun c103 => ?_) (fun c103 => ?_)
    · rw [if_neg c103] at h
      refine g_iconst (pc := 119) B dL_areTwo_119 (0 : Int32) (by decide) ?_
      obtain rfl := Option.some.inj h
      exact g_ret_Z (pc := 120) B rfl (Or.inl rfl) (by decide) (by decide) dL_areTwo_120
    · rw [if_pos c103] at h
      refine g_aload_n (pc := 106) B dL_areTwo_106 1 rfl ?_
      refine g_iload_n (pc := 107) B dL_areTwo_107 3 rfl ?_
      refine g_iload_n (pc := 108) B dL_areTwo_108 3 rfl ?_
      obtain ⟨v109, e109, h⟩ := nT_s h
      refine p_callV (pc := 109) (P := X) (As := [vI x2, vI x2]) (st := []) (st10 := [vI v109]) (cs' := 0) (sl' := 0) B cal_X11_areAlike kmL_122 kn_X11_areAlike ks_X11_areAlike hap k93_1 rfl (fun l hl => ct_X11_areAlike hl e109) rfl (Nat.le_of_ble_eq_true rfl) (by decide) (by decide) dL_areTwo_109 rfl rfl rfl rfl ?_
      refine g_if_eq (pc := 112) (tgt := 119) B dL_areTwo_112 (by decide) (fun c112 => ?_) (fun c112 => ?_)
      · rw [if_pos c112] at h
        refine g_iconst (pc := 119) B dL_areTwo_119 (0 : Int32) (by decide) ?_
        obtain rfl := Option.some.inj h
        exact g_ret_Z (pc := 120) B rfl (Or.inl rfl) (by decide) (by decide) dL_areTwo_120
      · rw [if_neg c112] at h
        refine g_iconst (pc := 115) B dL_areTwo_115 (1 : Int32) (by decide) ?_
        refine g_goto (pc := 116) (tgt := 120) B dL_areTwo_116 (by decide) ?_
        obtain rfl := Option.some.inj h
        exact g_ret_Z (pc := 120) B rfl (Or.inr rfl) (by decide) (by decide) dL_areTwo_120
set_option maxRecDepth 100000 in
set_option maxHeartbeats 4000000 in
theorem cb_L_areTwo_L82 {D : DD} {ev : EV} {X0 : LwP} {fu : Nat} {X : LwP} {x0 : Nat} {x1 : Nat} {x2 : Int32} {x3 : Int32} {r : Int32 × LwP} (B : Amb D (foot (lM X0)) ev RL "areTwo" cL_areTwo 7 (some .boolean) rmL_areTwo) (ht : Tb0 ev) (hap : apM X.1 X.2)  (h : fL_areTwo_L82 fu X x0 x1 x2 x3 = some r) : Gd D (foot (lM X0)) ev (QF D ev (lM X0) (.inr (some (vI r.1))) (lM r.2) rmL_areTwo) (lM X) 0 0 82 [(0, vA (some x0)), (1, vA (some x1)), (2, vI x2), (3, vI x3)] [] := by
  unfold fL_areTwo_L82 at h
  refine g_iconst (pc := 82) B dL_areTwo_82 (0 : Int32) (by decide) ?_
  refine g_sub (pc := 83) [0, 1, 2, 3] rfl ?_
  exact cb_L_areTwo_L83 B ht hap h
set_option maxRecDepth 100000 in
set_option maxHeartbeats 4000000 in
theorem cb_L_areTwo_L51 {D : DD} {ev : EV} {X0 : LwP} {fu : Nat} {X : LwP} {x0 : Nat} {x1 : Nat} {x2 : Int32} {x3 : Int32} {x4 : Int32} {s0 : Int32} {r : Int32 × LwP} (B : Amb D (foot (lM X0)) ev RL "areTwo" cL_areTwo 7 (some .boolean) rmL_areTwo) (ht : Tb0 ev) (hap : apM X.1 X.2)  (h : fL_areTwo_L51 fu X x0 x1 x2 x3 x4 s0 = some r) : Gd D (foot (lM X0)) ev (QF D ev (lM X0) (.inr (some (vI r.1))) (lM r.2) rmL_areTwo) (lM X) 0 0 51 [(0, vA (some x0)), (1, vA (some x1)), (2, vI x2), (3, vI x3), (4, vI x4)] [vI s0] := by
  unfold fL_areTwo_L51 at h
  refine g_iload (pc := 51) B dL_areTwo_51 4 rfl ?_
  refine g_icmp_ne (pc := 53) (tgt := 82) B dL_areTwo_53 (by decide) (fun c53 => ?_) (fun c53 => ?_)
  · rw [if_neg c53] at h
    refine g_sub (pc := 82) [0, 1, 2, 3] rfl ?_
    exact cb_L_areTwo_L82 B ht hap h
  · rw [if_pos c53] at h
    refine g_aload_n (pc := 56) B dL_areTwo_56 0 rfl ?_
    refine g_iload_n (pc := 57) B dL_areTwo_57 3 rfl ?_
    refine g_iload_n (pc := 58) B dL_areTwo_58 2 rfl ?_
    obtain ⟨k59_1, h⟩ := chk h
    obtain ⟨v59, e59, h⟩ := nT_s h
    refine p_callV (pc := 59) (P := X) (As := [vI x3, vI x2]) (st := []) (st10 := [vI v59]) (cs' := 0) (sl' := 0) B cal_X11_haveOneForm kmL_115 kn_X11_haveOneForm ks_X11_haveOneForm hap k59_1 rfl (fun l hl => ct_X11_haveOneForm hl e59) rfl (Nat.le_of_ble_eq_true rfl) (by decide) (by decide) dL_areTwo_59 rfl rfl rfl rfl ?_
    refine g_iload (pc := 62) B dL_areTwo_62 4 rfl ?_
    refine g_icmp_ne (pc := 64) (tgt := 82) B dL_areTwo_64 (by decide) (fun c64 => ?_) (fun c64 => ?_)
    · rw [if_neg c64] at h
      refine g_sub (pc := 82) [0, 1, 2, 3] rfl ?_
      exact cb_L_areTwo_L82 B ht hap h
    · rw [if_pos c64] at h
      refine g_aload_n (pc := 67) B dL_areTwo_67 0 rfl ?_
      refine g_iload_n (pc := 68) B dL_areTwo_68 2 rfl ?_
      refine g_iload_n (pc := 69) B dL_areTwo_69 2 rfl ?_
      obtain ⟨v70, X70, e70, h⟩ := nTW_s h
      obtain ⟨P70, eP70, h⟩ := ob h
      obtain ⟨hap70, h⟩ := apC_s h
      refine p_callVW (pc := 70) (P := X) (As := [vI x2, vI x2]) (st := []) (st10 := [vI v70]) (cs' := 0) (sl' := 0) B cal_X11_likeness kmL_119 kn_X11_likeness ks_X11_likeness hap k59_1 rfl (fun l hl => ct_X11_likeness hl e70) eP70 rfl (Nat.le_of_ble_eq_true rfl) (by decide) (by decide) dL_areTwo_70 rfl rfl rfl rfl ?_
      refine g_bipush (pc := 73) B dL_areTwo_73 (100 : Int32) (by decide) ?_
      refine g_icmp_ne (pc := 75) (tgt := 82) B dL_areTwo_75 (by decide) (fun c75 => ?_) (fun c75 => ?_)
      · rw [if_neg c75] at h
        refine g_sub (pc := 82) [0, 1, 2, 3] rfl ?_
        exact cb_L_areTwo_L82 B ht hap70 h
      · rw [if_pos c75] at h
        refine g_iconst (pc := 78) B dL_areTwo_78 (1 : Int32) (by decide) ?_
        refine g_goto (pc := 79) (tgt := 83) B dL_areTwo_79 (by decide) ?_
        refine g_sub (pc := 83) [0, 1, 2, 3] rfl ?_
        exact cb_L_areTwo_L83 B ht hap70 h
set_option maxRecDepth 100000 in
set_option maxHeartbeats 4000000 in
theorem cb_L_areTwo_L0 {D : DD} {ev : EV} {X0 : LwP} {fu : Nat} {X : LwP} {x0 : Nat} {x1 : Nat} {x2 : Int32} {x3 : Int32} {r : Int32 × LwP} (B : Amb D (foot (lM X0)) ev RL "areTwo" cL_areTwo 7 (some .boolean) rmL_areTwo) (ht : Tb0 ev) (hap : apM X.1 X.2)  (h : fL_areTwo fu X x0 x1 x2 x3 = some r) : Gd D (foot (lM X0)) ev (QF D ev (lM X0) (.inr (some (vI r.1))) (lM r.2) rmL_areTwo) (lM X) 0 0 0 [(0, vA (some x0)), (1, vA (some x1)), (2, vI x2), (3, vI x3)] [] := by
  unfold fL_areTwo at h
  refine g_aload_n (pc := 0) B dL_areTwo_0 0 rfl ?_
  refine g_iload_n (pc := 1) B dL_areTwo_1 2 rfl ?_
  refine g_iload_n (pc := 2) B dL_areTwo_2 3 rfl ?_
  obtain ⟨k3_1, h⟩ := chk h
  obtain ⟨v3, e3, h⟩ := nT_s h
  refine p_callV (pc := 3) (P := X) (As := [vI x2, vI x3]) (st := []) (st10 := [vI v3]) (cs' := 0) (sl' := 0) B cal_X11_haveOneForm kmL_115 kn_X11_haveOneForm ks_X11_haveOneForm hap k3_1 rfl (fun l hl => ct_X11_haveOneForm hl e3) rfl (Nat.le_of_ble_eq_true rfl) (by decide) (by decide) dL_areTwo_3 rfl rfl rfl rfl ?_
  refine g_istore (pc := 6) (L' := [(4, vI v3), (0, vA (some x0)), (1, vA (some x1)), (2, vI x2), (3, vI x3)]) B dL_areTwo_6 (by decide) rfl ?_
  refine g_aload_n (pc := 8) B dL_areTwo_8 1 rfl ?_
  refine g_iload_n (pc := 9) B dL_areTwo_9 3 rfl ?_
  refine g_iload_n (pc := 10) B dL_areTwo_10 4 rfl ?_
  obtain ⟨v11, X11, e11, h⟩ := nTW_s h
  obtain ⟨P11, eP11, h⟩ := ob h
  obtain ⟨hap11, h⟩ := apC_s h
  refine p_callVW (pc := 11) (P := X) (As := [vI x2, vI x3]) (st := []) (st10 := [vI v11]) (cs' := 0) (sl' := 0) B cal_X11_likeness kmL_119 kn_X11_likeness ks_X11_likeness hap k3_1 rfl (fun l hl => ct_X11_likeness hl e11) eP11 rfl (Nat.le_of_ble_eq_true rfl) (by decide) (by decide) dL_areTwo_11 rfl rfl rfl rfl ?_
  refine g_istore (pc := 14) (L' := [(5, vI v11), (4, vI v3), (0, vA (some x0)), (1, vA (some x1)), (2, vI x2), (3, vI x3)]) B dL_areTwo_14 (by decide) rfl ?_
  refine g_aload_n (pc := 16) B dL_areTwo_16 2 rfl ?_
  refine g_iload_n (pc := 17) B dL_areTwo_17 5 rfl ?_
  refine g_iload_n (pc := 18) B dL_areTwo_18 4 rfl ?_
  obtain ⟨k19_2, h⟩ := chk h
  obtain ⟨v19, X19, e19, h⟩ := nTW_s h
  obtain ⟨P19, eP19, h⟩ := ob h
  obtain ⟨hap19, h⟩ := apC_s h
  refine p_callVW (pc := 19) (P := P11) (As := [vI x3, vI x2]) (st := []) (st10 := [vI v19]) (cs' := 0) (sl' := 0) B cal_X11_likeness kmL_119 kn_X11_likeness ks_X11_likeness hap11 k19_2 rfl (fun l hl => ct_X11_likeness hl e19) eP19 rfl (Nat.le_of_ble_eq_true rfl) (by decide) (by decide) dL_areTwo_19 rfl rfl rfl rfl ?_
  refine g_iload (pc := 22) B dL_areTwo_22 0 rfl ?_
  refine g_icmp_ne (pc := 24) (tgt := 82) B dL_areTwo_24 (by decide) (fun c24 => ?_) (fun c24 => ?_)
  · rw [if_neg c24] at h
    refine g_sub (pc := 82) [2, 3, 4, 5] rfl ?_
    exact cb_L_areTwo_L82 B ht hap19 h
  · rw [if_pos c24] at h
    refine g_iload (pc := 27) B dL_areTwo_27 0 rfl ?_
    refine g_if_lt (pc := 29) (tgt := 82) B dL_areTwo_29 (by decide) (fun c29 => ?_) (fun c29 => ?_)
    · rw [if_pos c29] at h
      refine g_sub (pc := 82) [2, 3, 4, 5] rfl ?_
      exact cb_L_areTwo_L82 B ht hap19 h
    · rw [if_neg c29] at h
      refine g_iload (pc := 32) B dL_areTwo_32 0 rfl ?_
      refine g_bipush (pc := 34) B dL_areTwo_34 (100 : Int32) (by decide) ?_
      refine g_icmp_gt (pc := 36) (tgt := 82) B dL_areTwo_36 (by decide) (fun c36 => ?_) (fun c36 => ?_)
      · rw [if_pos c36] at h
        refine g_sub (pc := 82) [2, 3, 4, 5] rfl ?_
        exact cb_L_areTwo_L82 B ht hap19 h
      · rw [if_neg c36] at h
        refine g_iload (pc := 39) B dL_areTwo_39 0 rfl ?_
        refine g_bipush (pc := 41) B dL_areTwo_41 (100 : Int32) (by decide) ?_
        refine g_icmp_ne (pc := 43) (tgt := 50) B dL_areTwo_43 (by decide) (fun c43 => ?_) (fun c43 => ?_)
        · rw [if_neg c43] at h
          refine g_iconst (pc := 50) B dL_areTwo_50 (0 : Int32) (by decide) ?_
          refine g_sub (pc := 51) [2, 3, 4, 5, 1] rfl ?_
          exact cb_L_areTwo_L51 B ht hap19 h
        · rw [if_pos c43] at h
          refine g_iconst (pc := 46) B dL_areTwo_46 (1 : Int32) (by decide) ?_
          refine g_goto (pc := 47) (tgt := 51) B dL_areTwo_47 (by decide) ?_
          refine g_sub (pc := 51) [2, 3, 4, 5, 1] rfl ?_
          exact cb_L_areTwo_L51 B ht hap19 h
theorem ct_L_areTwo {D : DD} {l : Launch} {X0 : LwP} {fu : Nat} {x0 : Nat} {x1 : Nat} {x2 : Int32} {x3 : Int32} {r : Int32 × LwP} (hl : l.stackTraces = false) (hap : apM X0.1 X0.2) (h : fL_areTwo fu X0 x0 x1 x2 x3 = some r) : Ctr D l yL_areTwo cL_areTwo 7 (some .boolean) rmL_areTwo [vA (some x0), vA (some x1), vI x2, vI x3] (lM X0) (.inr (some (vI r.1))) (lM r.2) :=
  ctr_of hl (by decide +kernel) (Nat.le_of_ble_eq_true rfl) fun ev _ ht B => cb_L_areTwo_L0 B ht hap h
set_option maxRecDepth 100000 in
set_option maxHeartbeats 4000000 in
theorem cb_L_copyOf_L68 {D : DD} {ev : EV} {X0 : LwP} {fu : Nat} {rec3 : Nat → Nat → Nat → Int32 → Int32 → Option (Int32)} {x0 : Nat} {x1 : Nat} {x2 : Nat} {x3 : Int32} {x4 : Int32} {r : Int32} (B : Amb D (foot (lM X0)) ev RL "copyOf" cL_copyOf 5 (some .int) rmL_copyOf) (ht : Tb0 ev) (hap : apM X0.1 X0.2) (hrec3 : ∀ {x0 : Nat} {x1 : Nat} {x2 : Nat} {x3 : Int32} {x4 : Int32} {r : Int32}, apM X0.1 X0.2 → rec3 x0 x1 x2 x3 x4 = some r → Gd D (foot (lM X0)) ev (QF D ev (lM X0) (.inr (some (vI r))) (lM X0) rmL_copyOf) (lM X0) 0 0 3 [(0, vA (some x0)), (1, vA (some x1)), (2, vA (some x2)), (3, vI x3), (4, vI x4)] []) (h : fL_copyOf_L68 fu X0 rec3 x0 x1 x2 x3 x4 = some r) : Gd D (foot (lM X0)) ev (QF D ev (lM X0) (.inr (some (vI r))) (lM X0) rmL_copyOf) (lM X0) 0 0 68 [(0, vA (some x0)), (1, vA (some x1)), (2, vA (some x2)), (3, vI x3), (4, vI x4)] [] := by
  unfold fL_copyOf_L68 at h
  refine g_iinc (pc := 68) (v := (x4 + (1 : Int32))) (L' := [(4, vI (x4 + (1 : Int32))), (0, vA (some x0)), (1, vA (some x1)), (2, vA (some x2)), (3, vI x3)]) B dL_copyOf_68 (by decide) 4 rfl rfl rfl ?_
  refine g_goto (pc := 71) (tgt := 3) B dL_copyOf_71 (by decide) ?_
  refine g_sub (pc := 3) [1, 2, 3, 4, 0] rfl ?_
  exact hrec3 hap h
set_option maxRecDepth 100000 in
set_option maxHeartbeats 4000000 in
theorem cb_L_copyOf_L3b {D : DD} {ev : EV} {X0 : LwP} {fu : Nat} {rec3 : Nat → Nat → Nat → Int32 → Int32 → Option (Int32)} {x0 : Nat} {x1 : Nat} {x2 : Nat} {x3 : Int32} {x4 : Int32} {r : Int32} (B : Amb D (foot (lM X0)) ev RL "copyOf" cL_copyOf 5 (some .int) rmL_copyOf) (ht : Tb0 ev) (hap : apM X0.1 X0.2) (hrec3 : ∀ {x0 : Nat} {x1 : Nat} {x2 : Nat} {x3 : Int32} {x4 : Int32} {r : Int32}, apM X0.1 X0.2 → rec3 x0 x1 x2 x3 x4 = some r → Gd D (foot (lM X0)) ev (QF D ev (lM X0) (.inr (some (vI r))) (lM X0) rmL_copyOf) (lM X0) 0 0 3 [(0, vA (some x0)), (1, vA (some x1)), (2, vA (some x2)), (3, vI x3), (4, vI x4)] []) (h : fL_copyOf_L3b fu X0 rec3 x0 x1 x2 x3 x4 = some r) : Gd D (foot (lM X0)) ev (QF D ev (lM X0) (.inr (some (vI r))) (lM X0) rmL_copyOf) (lM X0) 0 0 3 [(0, vA (some x0)), (1, vA (some x1)), (2, vA (some x2)), (3, vI x3), (4, vI x4)] [] := by
  unfold fL_copyOf_L3b at h
  refine g_iload (pc := 3) B dL_copyOf_3 4 rfl ?_
  refine g_iload_n (pc := 5) B dL_copyOf_5 3 rfl ?_
  refine g_icmp_ge (pc := 6) (tgt := 74) B dL_copyOf_6 (by decide) (fun c6 => ?_) (fun c6 => ?_)
  · rw [if_pos c6] at h
    refine g_iconst (pc := 74) B dL_copyOf_74 (-1) (by decide) ?_
    obtain rfl := Option.some.inj h
    exact g_ret_I (pc := 75) B rfl (by decide) (by decide) dL_copyOf_75
  · rw [if_neg c6] at h
    refine g_aload_n (pc := 9) B dL_copyOf_9 2 rfl ?_
    refine g_bipush (pc := 10) B dL_copyOf_10 (22 : Int32) (by decide) ?_
    refine g_iload (pc := 12) B dL_copyOf_12 4 rfl ?_
    refine g_iadd (pc := 14) B dL_copyOf_14 ?_
    obtain ⟨c15, h⟩ := chk h
    refine gp_iald (pc := 15) (P := X0) B hap c15 dL_copyOf_15 ?_
    refine g_aload_n (pc := 16) B dL_copyOf_16 2 rfl ?_
    refine g_bipush (pc := 17) B dL_copyOf_17 (22 : Int32) (by decide) ?_
    refine g_iload_n (pc := 19) B dL_copyOf_19 3 rfl ?_
    refine g_iadd (pc := 20) B dL_copyOf_20 ?_
    obtain ⟨c21, h⟩ := chk h
    refine gp_iald (pc := 21) (P := X0) B hap c21 dL_copyOf_21 ?_
    refine g_icmp_ne (pc := 22) (tgt := 68) B dL_copyOf_22 (by decide) (fun c22 => ?_) (fun c22 => ?_)
    · rw [if_neg c22] at h
      refine g_sub (pc := 68) [0, 1, 2, 3, 4] rfl ?_
      exact cb_L_copyOf_L68 B ht hap hrec3 h
    · rw [if_pos c22] at h
      refine g_aload_n (pc := 25) B dL_copyOf_25 1 rfl ?_
      refine g_aload_n (pc := 26) B dL_copyOf_26 2 rfl ?_
      refine g_bipush (pc := 27) B dL_copyOf_27 (12 : Int32) (by decide) ?_
      refine g_iload (pc := 29) B dL_copyOf_29 4 rfl ?_
      refine g_iadd (pc := 31) B dL_copyOf_31 ?_
      obtain ⟨c32, h⟩ := chk h
      refine gp_iald (pc := 32) (P := X0) B hap c32 dL_copyOf_32 ?_
      obtain ⟨c33, h⟩ := chk h
      refine gp_iald (pc := 33) (P := X0) B hap c33 dL_copyOf_33 ?_
      refine g_aload_n (pc := 34) B dL_copyOf_34 1 rfl ?_
      refine g_aload_n (pc := 35) B dL_copyOf_35 2 rfl ?_
      refine g_bipush (pc := 36) B dL_copyOf_36 (12 : Int32) (by decide) ?_
      refine g_iload_n (pc := 38) B dL_copyOf_38 3 rfl ?_
      refine g_iadd (pc := 39) B dL_copyOf_39 ?_
      obtain ⟨c40, h⟩ := chk h
      refine gp_iald (pc := 40) (P := X0) B hap c40 dL_copyOf_40 ?_
      obtain ⟨c41, h⟩ := chk h
      refine gp_iald (pc := 41) (P := X0) B hap c41 dL_copyOf_41 ?_
      refine g_icmp_eq (pc := 42) (tgt := 68) B dL_copyOf_42 (by decide) (fun c42 => ?_) (fun c42 => ?_)
      · rw [if_pos c42] at h
        refine g_sub (pc := 68) [0, 1, 2, 3, 4] rfl ?_
        exact cb_L_copyOf_L68 B ht hap hrec3 h
      · rw [if_neg c42] at h
        refine g_aload_n (pc := 45) B dL_copyOf_45 0 rfl ?_
        refine g_aload_n (pc := 46) B dL_copyOf_46 2 rfl ?_
        refine g_bipush (pc := 47) B dL_copyOf_47 (12 : Int32) (by decide) ?_
        refine g_iload (pc := 49) B dL_copyOf_49 4 rfl ?_
        refine g_iadd (pc := 51) B dL_copyOf_51 ?_
        obtain ⟨c52, h⟩ := chk h
        refine gp_iald (pc := 52) (P := X0) B hap c52 dL_copyOf_52 ?_
        refine g_aload_n (pc := 53) B dL_copyOf_53 2 rfl ?_
        refine g_bipush (pc := 54) B dL_copyOf_54 (12 : Int32) (by decide) ?_
        refine g_iload_n (pc := 56) B dL_copyOf_56 3 rfl ?_
        refine g_iadd (pc := 57) B dL_copyOf_57 ?_
        obtain ⟨c58, h⟩ := chk h
        refine gp_iald (pc := 58) (P := X0) B hap c58 dL_copyOf_58 ?_
        obtain ⟨k59_1, h⟩ := chk h
        obtain ⟨v59, e59, h⟩ := nT_s h
        refine p_callV (pc := 59) (P := X0) (As := [vI (aI X0.2 x2 ((12 : Int32) + x4).toNatClampNeg), vI (aI X0.2 x2 ((12 : Int32) + x3).toNatClampNeg)]) (st := []) (st10 := [vI v59]) (cs' := 0) (sl' := 0) B cal_X11_haveOneForm kmL_115 kn_X11_haveOneForm ks_X11_haveOneForm hap k59_1 rfl (fun l hl => ct_X11_haveOneForm hl e59) rfl (Nat.le_of_ble_eq_true rfl) (by decide) (by decide) dL_copyOf_59 rfl rfl rfl rfl ?_
        refine g_if_eq (pc := 62) (tgt := 68) B dL_copyOf_62 (by decide) (fun c62 => ?_) (fun c62 => ?_)
        · rw [if_pos c62] at h
          refine g_sub (pc := 68) [0, 1, 2, 3, 4] rfl ?_
          exact cb_L_copyOf_L68 B ht hap hrec3 h
        · rw [if_neg c62] at h
          refine g_iload (pc := 65) B dL_copyOf_65 4 rfl ?_
          obtain rfl := Option.some.inj h
          exact g_ret_I (pc := 67) B rfl (by decide) (by decide) dL_copyOf_67
theorem cb_L_copyOf_L3n {D : DD} {ev : EV} {X0 : LwP} {fu : Nat} (B : Amb D (foot (lM X0)) ev RL "copyOf" cL_copyOf 5 (some .int) rmL_copyOf) (ht : Tb0 ev)  : ∀ (n : Nat) {x0 : Nat} {x1 : Nat} {x2 : Nat} {x3 : Int32} {x4 : Int32} {r : Int32}, apM X0.1 X0.2 → fL_copyOf_L3 fu X0 n x0 x1 x2 x3 x4 = some r → Gd D (foot (lM X0)) ev (QF D ev (lM X0) (.inr (some (vI r))) (lM X0) rmL_copyOf) (lM X0) 0 0 3 [(0, vA (some x0)), (1, vA (some x1)), (2, vA (some x2)), (3, vI x3), (4, vI x4)] [] := by
  intro n
  induction n with
  | zero => intro x0 x1 x2 x3 x4 r hap h; exact nomatch h
  | succ n ih => intro x0 x1 x2 x3 x4 r hap h; exact cb_L_copyOf_L3b (fu := fu) B ht hap (fun hap9 h9 => ih hap9 h9) h
theorem cb_L_copyOf_L3 {D : DD} {ev : EV} {X0 : LwP} {fu : Nat} {x0 : Nat} {x1 : Nat} {x2 : Nat} {x3 : Int32} {x4 : Int32} {n : Nat} {r : Int32} (B : Amb D (foot (lM X0)) ev RL "copyOf" cL_copyOf 5 (some .int) rmL_copyOf) (ht : Tb0 ev) (hap : apM X0.1 X0.2)  (h : fL_copyOf_L3 fu X0 n x0 x1 x2 x3 x4 = some r) : Gd D (foot (lM X0)) ev (QF D ev (lM X0) (.inr (some (vI r))) (lM X0) rmL_copyOf) (lM X0) 0 0 3 [(0, vA (some x0)), (1, vA (some x1)), (2, vA (some x2)), (3, vI x3), (4, vI x4)] [] := cb_L_copyOf_L3n B ht n hap h
set_option maxRecDepth 100000 in
set_option maxHeartbeats 4000000 in
theorem cb_L_copyOf_L0 {D : DD} {ev : EV} {X0 : LwP} {fu : Nat} {x0 : Nat} {x1 : Nat} {x2 : Nat} {x3 : Int32} {r : Int32} (B : Amb D (foot (lM X0)) ev RL "copyOf" cL_copyOf 5 (some .int) rmL_copyOf) (ht : Tb0 ev) (hap : apM X0.1 X0.2)  (h : fL_copyOf fu X0 x0 x1 x2 x3 = some r) : Gd D (foot (lM X0)) ev (QF D ev (lM X0) (.inr (some (vI r))) (lM X0) rmL_copyOf) (lM X0) 0 0 0 [(0, vA (some x0)), (1, vA (some x1)), (2, vA (some x2)), (3, vI x3)] [] := by
  unfold fL_copyOf at h
  refine g_iconst (pc := 0) B dL_copyOf_0 (0 : Int32) (by decide) ?_
  refine g_istore (pc := 1) (L' := [(4, vI (0 : Int32)), (0, vA (some x0)), (1, vA (some x1)), (2, vA (some x2)), (3, vI x3)]) B dL_copyOf_1 (by decide) rfl ?_
  refine g_sub (pc := 3) [1, 2, 3, 4, 0] rfl ?_
  exact cb_L_copyOf_L3 B ht hap h
theorem ct_L_copyOf {D : DD} {l : Launch} {X0 : LwP} {fu : Nat} {x0 : Nat} {x1 : Nat} {x2 : Nat} {x3 : Int32} {r : Int32} (hl : l.stackTraces = false) (hap : apM X0.1 X0.2) (h : fL_copyOf fu X0 x0 x1 x2 x3 = some r) : Ctr D l yL_copyOf cL_copyOf 5 (some .int) rmL_copyOf [vA (some x0), vA (some x1), vA (some x2), vI x3] (lM X0) (.inr (some (vI r))) (lM X0) :=
  ctr_of hl (by decide +kernel) (Nat.le_of_ble_eq_true rfl) fun ev _ ht B => cb_L_copyOf_L0 B ht hap h
set_option maxRecDepth 100000 in
set_option maxHeartbeats 4000000 in
theorem cb_L_isFree_L69 {D : DD} {ev : EV} {X0 : LwP} {fu : Nat} {rec32 : Nat → Int32 → Int32 → Int32 → Int32 → Int32 → Int32 → Option (Int32)} {x1 : Nat} {x2 : Int32} {x3 : Int32} {x4 : Int32} {x5 : Int32} {x7 : Int32} {s0 : Int32} {r : Int32} (B : Amb D (foot (lM X0)) ev RL "isFree" cL_isFree 8 (some .boolean) rmL_isFree) (ht : Tb0 ev) (hap : apM X0.1 X0.2) (hrec32 : ∀ {x1 : Nat} {x2 : Int32} {x3 : Int32} {x4 : Int32} {x5 : Int32} {x6 : Int32} {x7 : Int32} {r : Int32}, apM X0.1 X0.2 → rec32 x1 x2 x3 x4 x5 x6 x7 = some r → Gd D (foot (lM X0)) ev (QF D ev (lM X0) (.inr (some (vI r))) (lM X0) rmL_isFree) (lM X0) 0 0 32 [(1, vA (some x1)), (2, vI x2), (3, vI x3), (4, vI x4), (5, vI x5), (6, vI x6), (7, vI x7)] []) (h : fL_isFree_L69 fu X0 rec32 x1 x2 x3 x4 x5 x7 s0 = some r) : Gd D (foot (lM X0)) ev (QF D ev (lM X0) (.inr (some (vI r))) (lM X0) rmL_isFree) (lM X0) 0 0 69 [(1, vA (some x1)), (2, vI x2), (3, vI x3), (4, vI x4), (5, vI x5), (7, vI x7)] [vI s0] := by
  unfold fL_isFree_L69 at h
  refine g_istore (pc := 69) (L' := [(6, vI s0), (1, vA (some x1)), (2, vI x2), (3, vI x3), (4, vI x4), (5, vI x5), (7, vI x7)]) B dL_isFree_69 (by decide) rfl ?_
  refine g_iinc (pc := 71) (v := (x7 + (1 : Int32))) (L' := [(7, vI (x7 + (1 : Int32))), (6, vI s0), (1, vA (some x1)), (2, vI x2), (3, vI x3), (4, vI x4), (5, vI x5)]) B dL_isFree_71 (by decide) 6 rfl rfl rfl ?_
  refine g_goto (pc := 74) (tgt := 32) B dL_isFree_74 (by decide) ?_
  refine g_sub (pc := 32) [2, 3, 4, 5, 6, 1, 0] rfl ?_
  exact hrec32 hap h
set_option maxRecDepth 100000 in
set_option maxHeartbeats 4000000 in
theorem cb_L_isFree_L32b {D : DD} {ev : EV} {X0 : LwP} {fu : Nat} {rec32 : Nat → Int32 → Int32 → Int32 → Int32 → Int32 → Int32 → Option (Int32)} {x1 : Nat} {x2 : Int32} {x3 : Int32} {x4 : Int32} {x5 : Int32} {x6 : Int32} {x7 : Int32} {r : Int32} (B : Amb D (foot (lM X0)) ev RL "isFree" cL_isFree 8 (some .boolean) rmL_isFree) (ht : Tb0 ev) (hap : apM X0.1 X0.2) (hrec32 : ∀ {x1 : Nat} {x2 : Int32} {x3 : Int32} {x4 : Int32} {x5 : Int32} {x6 : Int32} {x7 : Int32} {r : Int32}, apM X0.1 X0.2 → rec32 x1 x2 x3 x4 x5 x6 x7 = some r → Gd D (foot (lM X0)) ev (QF D ev (lM X0) (.inr (some (vI r))) (lM X0) rmL_isFree) (lM X0) 0 0 32 [(1, vA (some x1)), (2, vI x2), (3, vI x3), (4, vI x4), (5, vI x5), (6, vI x6), (7, vI x7)] []) (h : fL_isFree_L32b fu X0 rec32 x1 x2 x3 x4 x5 x6 x7 = some r) : Gd D (foot (lM X0)) ev (QF D ev (lM X0) (.inr (some (vI r))) (lM X0) rmL_isFree) (lM X0) 0 0 32 [(1, vA (some x1)), (2, vI x2), (3, vI x3), (4, vI x4), (5, vI x5), (6, vI x6), (7, vI x7)] [] := by
  unfold fL_isFree_L32b at h
  refine g_iload (pc := 32) B dL_isFree_32 6 rfl ?_
  refine g_iload_n (pc := 34) B dL_isFree_34 2 rfl ?_
  refine g_iload (pc := 35) B dL_isFree_35 4 rfl ?_
  refine g_iadd (pc := 37) B dL_isFree_37 ?_
  refine g_icmp_ge (pc := 38) (tgt := 77) B dL_isFree_38 (by decide) (fun c38 => ?_) (fun c38 => ?_)
  · rw [if_pos c38] at h
    refine g_iload (pc := 77) B dL_isFree_77 5 rfl ?_
    obtain ⟨z79, h⟩ := chk h
    obtain rfl := Option.some.inj h
    exact g_ret_Z (pc := 79) B rfl z79 (by decide) (by decide) dL_isFree_79
  · rw [if_neg c38] at h
    refine g_iload (pc := 41) B dL_isFree_41 5 rfl ?_
    refine g_if_eq (pc := 43) (tgt := 77) B dL_isFree_43 (by decide) (fun c43 => ?_) (fun c43 => ?_)
    · rw [if_pos c43] at h
      refine g_iload (pc := 77) B dL_isFree_77 5 rfl ?_
      obtain ⟨z79, h⟩ := chk h
      obtain rfl := Option.some.inj h
      exact g_ret_Z (pc := 79) B rfl z79 (by decide) (by decide) dL_isFree_79
    · rw [if_neg c43] at h
      refine g_aload_n (pc := 46) B dL_isFree_46 0 rfl ?_
      refine g_iload (pc := 47) B dL_isFree_47 6 rfl ?_
      obtain ⟨c49, h⟩ := chk h
      refine gp_lald (pc := 49) (P := X0) B hap c49 dL_isFree_49 ?_
      refine g_iload_n (pc := 50) B dL_isFree_50 1 rfl ?_
      refine g_lshr (pc := 51) B dL_isFree_51 ?_
      refine g_lconst (pc := 52) B dL_isFree_52 (1 : Int64) (by decide) ?_
      refine g_iload (pc := 53) B dL_isFree_53 3 rfl ?_
      refine g_lshl (pc := 55) B dL_isFree_55 ?_
      refine g_lconst (pc := 56) B dL_isFree_56 (1 : Int64) (by decide) ?_
      refine g_lsub (pc := 57) B dL_isFree_57 ?_
      refine g_land (pc := 58) B dL_isFree_58 ?_
      refine g_lconst (pc := 59) B dL_isFree_59 (0 : Int64) (by decide) ?_
      refine g_lcmp (pc := 60) B dL_isFree_60 ?_
      refine g_if_ne (pc := 61) (tgt := 68) B dL_isFree_61 (by decide) (fun c61 => ?_) (fun c61 => ?_)
      · rw [if_neg c61] at h
        refine g_iconst (pc := 68) B dL_isFree_68 (0 : Int32) (by decide) ?_
        refine g_sub (pc := 69) [0, 1, 2, 3, 4, 6] rfl ?_
        exact cb_L_isFree_L69 B ht hap hrec32 h
      · rw [if_pos c61] at h
        refine g_iconst (pc := 64) B dL_isFree_64 (1 : Int32) (by decide) ?_
        refine g_goto (pc := 65) (tgt := 69) B dL_isFree_65 (by decide) ?_
        refine g_sub (pc := 69) [0, 1, 2, 3, 4, 6] rfl ?_
        exact cb_L_isFree_L69 B ht hap hrec32 h
theorem cb_L_isFree_L32n {D : DD} {ev : EV} {X0 : LwP} {fu : Nat} (B : Amb D (foot (lM X0)) ev RL "isFree" cL_isFree 8 (some .boolean) rmL_isFree) (ht : Tb0 ev)  : ∀ (n : Nat) {x1 : Nat} {x2 : Int32} {x3 : Int32} {x4 : Int32} {x5 : Int32} {x6 : Int32} {x7 : Int32} {r : Int32}, apM X0.1 X0.2 → fL_isFree_L32 fu X0 n x1 x2 x3 x4 x5 x6 x7 = some r → Gd D (foot (lM X0)) ev (QF D ev (lM X0) (.inr (some (vI r))) (lM X0) rmL_isFree) (lM X0) 0 0 32 [(1, vA (some x1)), (2, vI x2), (3, vI x3), (4, vI x4), (5, vI x5), (6, vI x6), (7, vI x7)] [] := by
  intro n
  induction n with
  | zero => intro x1 x2 x3 x4 x5 x6 x7 r hap h; exact nomatch h
  | succ n ih => intro x1 x2 x3 x4 x5 x6 x7 r hap h; exact cb_L_isFree_L32b (fu := fu) B ht hap (fun hap9 h9 => ih hap9 h9) h
theorem cb_L_isFree_L32 {D : DD} {ev : EV} {X0 : LwP} {fu : Nat} {x1 : Nat} {x2 : Int32} {x3 : Int32} {x4 : Int32} {x5 : Int32} {x6 : Int32} {x7 : Int32} {n : Nat} {r : Int32} (B : Amb D (foot (lM X0)) ev RL "isFree" cL_isFree 8 (some .boolean) rmL_isFree) (ht : Tb0 ev) (hap : apM X0.1 X0.2)  (h : fL_isFree_L32 fu X0 n x1 x2 x3 x4 x5 x6 x7 = some r) : Gd D (foot (lM X0)) ev (QF D ev (lM X0) (.inr (some (vI r))) (lM X0) rmL_isFree) (lM X0) 0 0 32 [(1, vA (some x1)), (2, vI x2), (3, vI x3), (4, vI x4), (5, vI x5), (6, vI x6), (7, vI x7)] [] := cb_L_isFree_L32n B ht n hap h
set_option maxRecDepth 100000 in
set_option maxHeartbeats 4000000 in
theorem cb_L_isFree_L27 {D : DD} {ev : EV} {X0 : LwP} {fu : Nat} {x1 : Nat} {x2 : Int32} {x3 : Int32} {x4 : Int32} {x5 : Int32} {s0 : Int32} {r : Int32} (B : Amb D (foot (lM X0)) ev RL "isFree" cL_isFree 8 (some .boolean) rmL_isFree) (ht : Tb0 ev) (hap : apM X0.1 X0.2)  (h : fL_isFree_L27 fu X0 x1 x2 x3 x4 x5 s0 = some r) : Gd D (foot (lM X0)) ev (QF D ev (lM X0) (.inr (some (vI r))) (lM X0) rmL_isFree) (lM X0) 0 0 27 [(1, vA (some x1)), (2, vI x2), (3, vI x3), (4, vI x4), (5, vI x5)] [vI s0] := by
  unfold fL_isFree_L27 at h
  refine g_istore (pc := 27) (L' := [(6, vI s0), (1, vA (some x1)), (2, vI x2), (3, vI x3), (4, vI x4), (5, vI x5)]) B dL_isFree_27 (by decide) rfl ?_
  refine g_iload_n (pc := 29) B dL_isFree_29 3 rfl ?_
  refine g_istore (pc := 30) (L' := [(7, vI x3), (6, vI s0), (1, vA (some x1)), (2, vI x2), (3, vI x3), (4, vI x4), (5, vI x5)]) B dL_isFree_30 (by decide) rfl ?_
  refine g_sub (pc := 32) [2, 3, 4, 5, 6, 1, 0] rfl ?_
  exact cb_L_isFree_L32 B ht hap h
set_option maxRecDepth 100000 in
set_option maxHeartbeats 4000000 in
theorem cb_L_isFree_L26 {D : DD} {ev : EV} {X0 : LwP} {fu : Nat} {x1 : Nat} {x2 : Int32} {x3 : Int32} {x4 : Int32} {x5 : Int32} {r : Int32} (B : Amb D (foot (lM X0)) ev RL "isFree" cL_isFree 8 (some .boolean) rmL_isFree) (ht : Tb0 ev) (hap : apM X0.1 X0.2)  (h : fL_isFree_L26 fu X0 x1 x2 x3 x4 x5 = some r) : Gd D (foot (lM X0)) ev (QF D ev (lM X0) (.inr (some (vI r))) (lM X0) rmL_isFree) (lM X0) 0 0 26 [(1, vA (some x1)), (2, vI x2), (3, vI x3), (4, vI x4), (5, vI x5)] [] := by
  unfold fL_isFree_L26 at h
  refine g_iconst (pc := 26) B dL_isFree_26 (0 : Int32) (by decide) ?_
  refine g_sub (pc := 27) [0, 1, 2, 3, 4] rfl ?_
  exact cb_L_isFree_L27 B ht hap h
set_option maxRecDepth 100000 in
set_option maxHeartbeats 4000000 in
theorem cb_L_isFree_L0 {D : DD} {ev : EV} {X0 : LwP} {fu : Nat} {x0 : Nat} {x1 : Nat} {x2 : Int32} {x3 : Int32} {x4 : Int32} {x5 : Int32} {r : Int32} (B : Amb D (foot (lM X0)) ev RL "isFree" cL_isFree 8 (some .boolean) rmL_isFree) (ht : Tb0 ev) (hap : apM X0.1 X0.2)  (h : fL_isFree fu X0 x0 x1 x2 x3 x4 x5 = some r) : Gd D (foot (lM X0)) ev (QF D ev (lM X0) (.inr (some (vI r))) (lM X0) rmL_isFree) (lM X0) 0 0 0 [(0, vA (some x0)), (1, vA (some x1)), (2, vI x2), (3, vI x3), (4, vI x4), (5, vI x5)] [] := by
  unfold fL_isFree at h
  refine g_iload_n (pc := 0) B dL_isFree_0 2 rfl ?_
  refine g_iload (pc := 1) B dL_isFree_1 4 rfl ?_
  refine g_iadd (pc := 3) B dL_isFree_3 ?_
  refine g_aload_n (pc := 4) B dL_isFree_4 0 rfl ?_
  refine g_bipush (pc := 5) B dL_isFree_5 (6 : Int32) (by decide) ?_
  obtain ⟨c7, h⟩ := chk h
  refine gp_iald (pc := 7) (P := X0) B hap c7 dL_isFree_7 ?_
  refine g_icmp_gt (pc := 8) (tgt := 26) B dL_isFree_8 (by decide) (fun c8 => ?_) (fun c8 => ?_)
  · rw [if_pos c8] at h
    refine g_sub (pc := 26) [1, 2, 3, 4, 5] rfl ?_
    exact cb_L_isFree_L26 B ht hap h
  · rw [if_neg c8] at h
    refine g_iload_n (pc := 11) B dL_isFree_11 3 rfl ?_
    refine g_iload (pc := 12) B dL_isFree_12 5 rfl ?_
    refine g_iadd (pc := 14) B dL_isFree_14 ?_
    refine g_aload_n (pc := 15) B dL_isFree_15 0 rfl ?_
    refine g_bipush (pc := 16) B dL_isFree_16 (7 : Int32) (by decide) ?_
    obtain ⟨c18, h⟩ := chk h
    refine gp_iald (pc := 18) (P := X0) B hap c18 dL_isFree_18 ?_
    refine g_icmp_gt (pc := 19) (tgt := 26) B dL_isFree_19 (by decide) (fun c19 => ?_) (fun c19 => ?_)
    · rw [if_pos c19] at h
      refine g_sub (pc := 26) [1, 2, 3, 4, 5] rfl ?_
      exact cb_L_isFree_L26 B ht hap h
    · rw [if_neg c19] at h
      refine g_iconst (pc := 22) B dL_isFree_22 (1 : Int32) (by decide) ?_
      refine g_goto (pc := 23) (tgt := 27) B dL_isFree_23 (by decide) ?_
      refine g_sub (pc := 27) [1, 2, 3, 4, 5] rfl ?_
      exact cb_L_isFree_L27 B ht hap h
theorem ct_L_isFree {D : DD} {l : Launch} {X0 : LwP} {fu : Nat} {x0 : Nat} {x1 : Nat} {x2 : Int32} {x3 : Int32} {x4 : Int32} {x5 : Int32} {r : Int32} (hl : l.stackTraces = false) (hap : apM X0.1 X0.2) (h : fL_isFree fu X0 x0 x1 x2 x3 x4 x5 = some r) : Ctr D l yL_isFree cL_isFree 8 (some .boolean) rmL_isFree [vA (some x0), vA (some x1), vI x2, vI x3, vI x4, vI x5] (lM X0) (.inr (some (vI r))) (lM X0) :=
  ctr_of hl (by decide +kernel) (Nat.le_of_ble_eq_true rfl) fun ev _ ht B => cb_L_isFree_L0 B ht hap h
set_option maxRecDepth 100000 in
set_option maxHeartbeats 4000000 in
theorem cb_L_isWall_L424 {D : DD} {ev : EV} {X0 : LwP} {fu : Nat} {X : LwP} {x0 : Nat} {x4 : Int32} {x7 : Int32} {x8 : Int32} {x9 : Int32} {x10 : Int32} {x11 : Int32} {r : Int32 × LwP} (B : Amb D (foot (lM X0)) ev RL "isWall" cL_isWall 19 (some .boolean) rmL_isWall) (ht : Tb0 ev) (hap : apM X.1 X.2)  (h : fL_isWall_L424 fu X x0 x4 x7 x8 x9 x10 x11 = some r) : Gd D (foot (lM X0)) ev (QF D ev (lM X0) (.inr (some (vI r.1))) (lM r.2) rmL_isWall) (lM X) 1 40 424 [(0, vA (some x0)), (4, vI x4), (7, vI x7), (8, vI x8), (9, vI x9), (10, vI x10), (11, vI x11)] [] := by
  unfold fL_isWall_L424 at h
  refine g_iload (pc := 424) B dL_isWall_424 6 rfl ?_
  refine g_if_eq (pc := 426) (tgt := 467) B dL_isWall_426 (by decide) (fun c426 => ?_) (fun c426 => ?_)
  · rw [if_pos c426] at h
    refine g_iconst (pc := 467) B dL_isWall_467 (0 : Int32) (by decide) ?_
    obtain rfl := Option.some.inj h
    exact g_ret_Z (pc := 468) B rfl (Or.inl rfl) (by decide) (by decide) dL_isWall_468
  · rw [if_neg c426] at h
    refine g_aload_n (pc := 429) B dL_isWall_429 0 rfl ?_
    refine g_iload (pc := 430) B dL_isWall_430 4 rfl ?_
    refine g_iload (pc := 432) B dL_isWall_432 5 rfl ?_
    obtain ⟨k434_1, h⟩ := chk h
    obtain ⟨v434, e434, h⟩ := nT_s h
    refine p_callV (pc := 434) (P := X) (As := [vI x9, vI x10]) (st := []) (st10 := [vI v434]) (cs' := 1) (sl' := 40) B cal_X11_onWall kmL_148 kn_X11_onWall ks_X11_onWall hap k434_1 rfl (fun l hl => ct_X11_onWall hl e434) rfl (Nat.le_of_ble_eq_true rfl) (by decide) (by decide) dL_isWall_434 rfl rfl rfl rfl ?_
    refine g_iload (pc := 437) B dL_isWall_437 3 rfl ?_
    refine g_icmp_ne (pc := 439) (tgt := 467) B dL_isWall_439 (by decide) (fun c439 => ?_) (fun c439 => ?_)
    · rw [if_neg c439] at h
      refine g_iconst (pc := 467) B dL_isWall_467 (0 : Int32) (by decide) ?_
      obtain rfl := Option.some.inj h
      exact g_ret_Z (pc := 468) B rfl (Or.inl rfl) (by decide) (by decide) dL_isWall_468
    · rw [if_pos c439] at h
      refine g_aload_n (pc := 442) B dL_isWall_442 0 rfl ?_
      refine g_iload (pc := 443) B dL_isWall_443 1 rfl ?_
      refine g_iconst (pc := 445) B dL_isWall_445 (3 : Int32) (by decide) ?_
      refine g_irem (pc := 446) B dL_isWall_446 (by decide) ?_
      obtain ⟨v447, e447, h⟩ := nT_s h
      refine p_callV (pc := 447) (P := X) (As := [vI (x4 - x4 / (3 : Int32) * (3 : Int32))]) (st := []) (st10 := [vI v447]) (cs' := 1) (sl' := 40) B cal_X11_hung kmL_151 kn_X11_hung ks_X11_hung hap k434_1 rfl (fun l hl => ct_X11_hung hl e447) rfl (Nat.le_of_ble_eq_true rfl) (by decide) (by decide) dL_isWall_447 rfl rfl rfl rfl ?_
      refine g_iload (pc := 450) B dL_isWall_450 2 rfl ?_
      refine g_icmp_ne (pc := 452) (tgt := 467) B dL_isWall_452 (by decide) (fun c452 => ?_) (fun c452 => ?_)
      · rw [if_neg c452] at h
        refine g_iconst (pc := 467) B dL_isWall_467 (0 : Int32) (by decide) ?_
        obtain rfl := Option.some.inj h
        exact g_ret_Z (pc := 468) B rfl (Or.inl rfl) (by decide) (by decide) dL_isWall_468
      · rw [if_pos c452] at h
        refine g_aload_n (pc := 455) B dL_isWall_455 0 rfl ?_
        refine g_iconst (pc := 456) B dL_isWall_456 (5 : Int32) (by decide) ?_
        obtain ⟨v457, e457, h⟩ := nT_s h
        refine p_callV (pc := 457) (P := X) (As := [vI (5 : Int32)]) (st := []) (st10 := [vI v457]) (cs' := 1) (sl' := 40) B cal_X11_hung kmL_151 kn_X11_hung ks_X11_hung hap k434_1 rfl (fun l hl => ct_X11_hung hl e457) rfl (Nat.le_of_ble_eq_true rfl) (by decide) (by decide) dL_isWall_457 rfl rfl rfl rfl ?_
        refine g_if_ne (pc := 460) (tgt := 467) B dL_isWall_460 (by decide) (fun c460 => ?_) (fun c460 => ?_)
        · rw [if_neg c460] at h
          refine g_iconst (pc := 467) B dL_isWall_467 (0 : Int32) (by decide) ?_
          obtain rfl := Option.some.inj h
          exact g_ret_Z (pc := 468) B rfl (Or.inl rfl) (by decide) (by decide) dL_isWall_468
        · rw [if_pos c460] at h
          refine g_iconst (pc := 463) B dL_isWall_463 (1 : Int32) (by decide) ?_
          refine g_goto (pc := 464) (tgt := 468) B dL_isWall_464 (by decide) ?_
          obtain rfl := Option.some.inj h
          exact g_ret_Z (pc := 468) B rfl (Or.inr rfl) (by decide) (by decide) dL_isWall_468
set_option maxRecDepth 100000 in
set_option maxHeartbeats 4000000 in
theorem cb_L_isWall_L416 {D : DD} {ev : EV} {X0 : LwP} {fu : Nat} {rec36 : LwP → Nat → Nat → Nat → Nat → Int32 → Nat → Int32 → Int32 → Int32 → Int32 → Int32 → Int32 → Option (Int32 × LwP)} {X : LwP} {x0 : Nat} {x1 : Nat} {x2 : Nat} {x3 : Nat} {x4 : Int32} {x6 : Nat} {x7 : Int32} {x8 : Int32} {x9 : Int32} {x10 : Int32} {x12 : Int32} {s0 : Int32} {r : Int32 × LwP} (B : Amb D (foot (lM X0)) ev RL "isWall" cL_isWall 19 (some .boolean) rmL_isWall) (ht : Tb0 ev) (hap : apM X.1 X.2) (hrec36 : ∀ {X : LwP} {x0 : Nat} {x1 : Nat} {x2 : Nat} {x3 : Nat} {x4 : Int32} {x6 : Nat} {x7 : Int32} {x8 : Int32} {x9 : Int32} {x10 : Int32} {x11 : Int32} {x12 : Int32} {r : Int32 × LwP}, apM X.1 X.2 → rec36 X x0 x1 x2 x3 x4 x6 x7 x8 x9 x10 x11 x12 = some r → Gd D (foot (lM X0)) ev (QF D ev (lM X0) (.inr (some (vI r.1))) (lM r.2) rmL_isWall) (lM X) 1 40 36 [(0, vA (some x0)), (1, vA (some x1)), (2, vA (some x2)), (3, vA (some x3)), (4, vI x4), (6, vA (some x6)), (7, vI x7), (8, vI x8), (9, vI x9), (10, vI x10), (11, vI x11), (12, vI x12)] []) (h : fL_isWall_L416 fu rec36 X x0 x1 x2 x3 x4 x6 x7 x8 x9 x10 x12 s0 = some r) : Gd D (foot (lM X0)) ev (QF D ev (lM X0) (.inr (some (vI r.1))) (lM r.2) rmL_isWall) (lM X) 1 40 416 [(0, vA (some x0)), (1, vA (some x1)), (2, vA (some x2)), (3, vA (some x3)), (4, vI x4), (6, vA (some x6)), (7, vI x7), (8, vI x8), (9, vI x9), (10, vI x10), (12, vI x12)] [vI s0] := by
  unfold fL_isWall_L416 at h
  refine g_istore (pc := 416) (L' := [(11, vI s0), (0, vA (some x0)), (1, vA (some x1)), (2, vA (some x2)), (3, vA (some x3)), (4, vI x4), (6, vA (some x6)), (7, vI x7), (8, vI x8), (9, vI x9), (10, vI x10), (12, vI x12)]) B dL_isWall_416 (by decide) rfl ?_
  refine g_iinc (pc := 418) (v := (x12 + (1 : Int32))) (L' := [(12, vI (x12 + (1 : Int32))), (11, vI s0), (0, vA (some x0)), (1, vA (some x1)), (2, vA (some x2)), (3, vA (some x3)), (4, vI x4), (6, vA (some x6)), (7, vI x7), (8, vI x8), (9, vI x9), (10, vI x10)]) B dL_isWall_418 (by decide) 11 rfl rfl rfl ?_
  refine g_goto (pc := 421) (tgt := 36) B dL_isWall_421 (by decide) ?_
  refine g_sub (pc := 36) [2, 3, 4, 5, 6, 7, 8, 9, 10, 11, 1, 0] rfl ?_
  exact hrec36 hap h
set_option maxRecDepth 100000 in
set_option maxHeartbeats 4000000 in
theorem cb_L_isWall_L415 {D : DD} {ev : EV} {X0 : LwP} {fu : Nat} {rec36 : LwP → Nat → Nat → Nat → Nat → Int32 → Nat → Int32 → Int32 → Int32 → Int32 → Int32 → Int32 → Option (Int32 × LwP)} {X : LwP} {x0 : Nat} {x1 : Nat} {x2 : Nat} {x3 : Nat} {x4 : Int32} {x6 : Nat} {x7 : Int32} {x8 : Int32} {x9 : Int32} {x10 : Int32} {x12 : Int32} {r : Int32 × LwP} (B : Amb D (foot (lM X0)) ev RL "isWall" cL_isWall 19 (some .boolean) rmL_isWall) (ht : Tb0 ev) (hap : apM X.1 X.2) (hrec36 : ∀ {X : LwP} {x0 : Nat} {x1 : Nat} {x2 : Nat} {x3 : Nat} {x4 : Int32} {x6 : Nat} {x7 : Int32} {x8 : Int32} {x9 : Int32} {x10 : Int32} {x11 : Int32} {x12 : Int32} {r : Int32 × LwP}, apM X.1 X.2 → rec36 X x0 x1 x2 x3 x4 x6 x7 x8 x9 x10 x11 x12 = some r → Gd D (foot (lM X0)) ev (QF D ev (lM X0) (.inr (some (vI r.1))) (lM r.2) rmL_isWall) (lM X) 1 40 36 [(0, vA (some x0)), (1, vA (some x1)), (2, vA (some x2)), (3, vA (some x3)), (4, vI x4), (6, vA (some x6)), (7, vI x7), (8, vI x8), (9, vI x9), (10, vI x10), (11, vI x11), (12, vI x12)] []) (h : fL_isWall_L415 fu rec36 X x0 x1 x2 x3 x4 x6 x7 x8 x9 x10 x12 = some r) : Gd D (foot (lM X0)) ev (QF D ev (lM X0) (.inr (some (vI r.1))) (lM r.2) rmL_isWall) (lM X) 1 40 415 [(0, vA (some x0)), (1, vA (some x1)), (2, vA (some x2)), (3, vA (some x3)), (4, vI x4), (6, vA (some x6)), (7, vI x7), (8, vI x8), (9, vI x9), (10, vI x10), (12, vI x12)] [] := by
  unfold fL_isWall_L415 at h
  refine g_iconst (pc := 415) B dL_isWall_415 (0 : Int32) (by decide) ?_
  refine g_sub (pc := 416) [0, 1, 2, 3, 4, 5, 6, 7, 8, 9, 10] rfl ?_
  exact cb_L_isWall_L416 B ht hap hrec36 h
set_option maxRecDepth 100000 in
set_option maxHeartbeats 4000000 in
theorem cb_L_isWall_L408 {D : DD} {ev : EV} {X0 : LwP} {fu : Nat} {rec36 : LwP → Nat → Nat → Nat → Nat → Int32 → Nat → Int32 → Int32 → Int32 → Int32 → Int32 → Int32 → Option (Int32 × LwP)} {X : LwP} {x0 : Nat} {x1 : Nat} {x2 : Nat} {x3 : Nat} {x4 : Int32} {x6 : Nat} {x7 : Int32} {x8 : Int32} {x9 : Int32} {x10 : Int32} {x12 : Int32} {s0 : Int32} {s1 : Int32} {r : Int32 × LwP} (B : Amb D (foot (lM X0)) ev RL "isWall" cL_isWall 19 (some .boolean) rmL_isWall) (ht : Tb0 ev) (hap : apM X.1 X.2) (hrec36 : ∀ {X : LwP} {x0 : Nat} {x1 : Nat} {x2 : Nat} {x3 : Nat} {x4 : Int32} {x6 : Nat} {x7 : Int32} {x8 : Int32} {x9 : Int32} {x10 : Int32} {x11 : Int32} {x12 : Int32} {r : Int32 × LwP}, apM X.1 X.2 → rec36 X x0 x1 x2 x3 x4 x6 x7 x8 x9 x10 x11 x12 = some r → Gd D (foot (lM X0)) ev (QF D ev (lM X0) (.inr (some (vI r.1))) (lM r.2) rmL_isWall) (lM X) 1 40 36 [(0, vA (some x0)), (1, vA (some x1)), (2, vA (some x2)), (3, vA (some x3)), (4, vI x4), (6, vA (some x6)), (7, vI x7), (8, vI x8), (9, vI x9), (10, vI x10), (11, vI x11), (12, vI x12)] []) (h : fL_isWall_L408 fu rec36 X x0 x1 x2 x3 x4 x6 x7 x8 x9 x10 x12 s0 s1 = some r) : Gd D (foot (lM X0)) ev (QF D ev (lM X0) (.inr (some (vI r.1))) (lM r.2) rmL_isWall) (lM X) 1 40 408 [(0, vA (some x0)), (1, vA (some x1)), (2, vA (some x2)), (3, vA (some x3)), (4, vI x4), (6, vA (some x6)), (7, vI x7), (8, vI x8), (9, vI x9), (10, vI x10), (12, vI x12)] [vI s1, vI s0] := by
  unfold fL_isWall_L408 at h
  refine g_icmp_ne (pc := 408) (tgt := 415) B dL_isWall_408 (by decide) (fun c408 => ?_) (fun c408 => ?_)
  · rw [if_neg c408] at h
    refine g_sub (pc := 415) [0, 1, 2, 3, 4, 5, 6, 7, 8, 9, 10] rfl ?_
    exact cb_L_isWall_L415 B ht hap hrec36 h
  · rw [if_pos c408] at h
    refine g_iconst (pc := 411) B dL_isWall_411 (1 : Int32) (by decide) ?_
    refine g_goto (pc := 412) (tgt := 416) B dL_isWall_412 (by decide) ?_
    refine g_sub (pc := 416) [0, 1, 2, 3, 4, 5, 6, 7, 8, 9, 10] rfl ?_
    exact cb_L_isWall_L416 B ht hap hrec36 h
set_option maxRecDepth 100000 in
set_option maxHeartbeats 4000000 in
theorem cb_L_isWall_L350 {D : DD} {ev : EV} {X0 : LwP} {fu : Nat} {rec36 : LwP → Nat → Nat → Nat → Nat → Int32 → Nat → Int32 → Int32 → Int32 → Int32 → Int32 → Int32 → Option (Int32 × LwP)} {X : LwP} {x0 : Nat} {x1 : Nat} {x2 : Nat} {x3 : Nat} {x4 : Int32} {x6 : Nat} {x8 : Int32} {x9 : Int32} {x10 : Int32} {x12 : Int32} {x13 : Int32} {x14 : Int32} {x15 : Int32} {s0 : Int32} {s1 : Int32} {r : Int32 × LwP} (B : Amb D (foot (lM X0)) ev RL "isWall" cL_isWall 19 (some .boolean) rmL_isWall) (ht : Tb0 ev) (hap : apM X.1 X.2) (hrec36 : ∀ {X : LwP} {x0 : Nat} {x1 : Nat} {x2 : Nat} {x3 : Nat} {x4 : Int32} {x6 : Nat} {x7 : Int32} {x8 : Int32} {x9 : Int32} {x10 : Int32} {x11 : Int32} {x12 : Int32} {r : Int32 × LwP}, apM X.1 X.2 → rec36 X x0 x1 x2 x3 x4 x6 x7 x8 x9 x10 x11 x12 = some r → Gd D (foot (lM X0)) ev (QF D ev (lM X0) (.inr (some (vI r.1))) (lM r.2) rmL_isWall) (lM X) 1 40 36 [(0, vA (some x0)), (1, vA (some x1)), (2, vA (some x2)), (3, vA (some x3)), (4, vI x4), (6, vA (some x6)), (7, vI x7), (8, vI x8), (9, vI x9), (10, vI x10), (11, vI x11), (12, vI x12)] []) (h : fL_isWall_L350 fu rec36 X x0 x1 x2 x3 x4 x6 x8 x9 x10 x12 x13 x14 x15 s0 s1 = some r) : Gd D (foot (lM X0)) ev (QF D ev (lM X0) (.inr (some (vI r.1))) (lM r.2) rmL_isWall) (lM X) 1 40 350 [(0, vA (some x0)), (1, vA (some x1)), (2, vA (some x2)), (3, vA (some x3)), (4, vI x4), (6, vA (some x6)), (8, vI x8), (9, vI x9), (10, vI x10), (12, vI x12), (13, vI x13), (14, vI x14), (15, vI x15)] [vI s1, vI s0] := by
  unfold fL_isWall_L350 at h
  refine g_iadd (pc := 350) B dL_isWall_350 ?_
  refine g_istore (pc := 351) (L' := [(7, vI (s0 + s1)), (0, vA (some x0)), (1, vA (some x1)), (2, vA (some x2)), (3, vA (some x3)), (4, vI x4), (6, vA (some x6)), (8, vI x8), (9, vI x9), (10, vI x10), (12, vI x12), (13, vI x13), (14, vI x14), (15, vI x15)]) B dL_isWall_351 (by decide) rfl ?_
  refine g_aload_n (pc := 353) B dL_isWall_353 1 rfl ?_
  refine g_iload (pc := 354) B dL_isWall_354 10 rfl ?_
  obtain ⟨k356_1, h⟩ := chk h
  obtain ⟨v356, e356, h⟩ := nT_s h
  refine p_callV (pc := 356) (P := X) (As := [vI x12]) (st := []) (st10 := [vI v356]) (cs' := 1) (sl' := 40) B cal_X11_meets kmL_143 kn_X11_meets ks_X11_meets hap k356_1 rfl (fun l hl => ct_X11_meets hl e356) rfl (Nat.le_of_ble_eq_true rfl) (by decide) (by decide) dL_isWall_356 rfl rfl rfl rfl ?_
  refine g_iload (pc := 359) B dL_isWall_359 11 rfl ?_
  refine g_icmp_ne (pc := 361) (tgt := 415) B dL_isWall_361 (by decide) (fun c361 => ?_) (fun c361 => ?_)
  · rw [if_neg c361] at h
    refine g_sub (pc := 415) [1, 2, 3, 4, 5, 6, 0, 7, 8, 9, 10] rfl ?_
    exact cb_L_isWall_L415 B ht hap hrec36 h
  · rw [if_pos c361] at h
    refine g_aload_n (pc := 364) B dL_isWall_364 1 rfl ?_
    refine g_iload (pc := 365) B dL_isWall_365 10 rfl ?_
    obtain ⟨v367, e367, h⟩ := nT_s h
    refine p_callV (pc := 367) (P := X) (As := [vI x12]) (st := []) (st10 := [vI v367]) (cs' := 1) (sl' := 40) B cal_X11_copyOf kmL_146 kn_X11_copyOf ks_X11_copyOf hap k356_1 rfl (fun l hl => ct_X11_copyOf hl e367) rfl (Nat.le_of_ble_eq_true rfl) (by decide) (by decide) dL_isWall_367 rfl rfl rfl rfl ?_
    refine g_iload (pc := 370) B dL_isWall_370 12 rfl ?_
    refine g_icmp_ne (pc := 372) (tgt := 415) B dL_isWall_372 (by decide) (fun c372 => ?_) (fun c372 => ?_)
    · rw [if_neg c372] at h
      refine g_sub (pc := 415) [1, 2, 3, 4, 5, 6, 0, 7, 8, 9, 10] rfl ?_
      exact cb_L_isWall_L415 B ht hap hrec36 h
    · rw [if_pos c372] at h
      refine g_aload_n (pc := 375) B dL_isWall_375 1 rfl ?_
      refine g_iload (pc := 376) B dL_isWall_376 10 rfl ?_
      obtain ⟨v378, e378, h⟩ := nT_s h
      refine p_callV (pc := 378) (P := X) (As := [vI x12]) (st := []) (st10 := [vI v378]) (cs' := 1) (sl' := 40) B cal_X11_hangs kmL_48 kn_X11_hangs ks_X11_hangs hap k356_1 rfl (fun l hl => ct_X11_hangs hl e378) rfl (Nat.le_of_ble_eq_true rfl) (by decide) (by decide) dL_isWall_378 rfl rfl rfl rfl ?_
      refine g_iload (pc := 381) B dL_isWall_381 13 rfl ?_
      refine g_if_ge (pc := 383) (tgt := 390) B dL_isWall_383 (by decide) (fun c383 => ?_) (fun c383 => ?_)
      · rw [if_pos c383] at h
        refine g_bipush (pc := 390) B dL_isWall_390 (100 : Int32) (by decide) ?_
        refine g_iload (pc := 392) B dL_isWall_392 13 rfl ?_
        refine g_aload_n (pc := 394) B dL_isWall_394 2 rfl ?_
        refine g_bipush (pc := 395) B dL_isWall_395 (6 : Int32) (by decide) ?_
        obtain ⟨c397, h⟩ := chk h
        refine gp_iald (pc := 397) (P := X) B hap c397 dL_isWall_397 ?_
        obtain ⟨c398, h⟩ := chkN h
        refine g_irem (pc := 398) B dL_isWall_398 c398 ?_
        refine g_imul (pc := 399) B dL_isWall_399 ?_
        refine g_iload (pc := 400) B dL_isWall_400 13 rfl ?_
        refine g_aload_n (pc := 402) B dL_isWall_402 2 rfl ?_
        refine g_bipush (pc := 403) B dL_isWall_403 (6 : Int32) (by decide) ?_
        obtain ⟨c405, h⟩ := chk h
        refine gp_iald (pc := 405) (P := X) B hap c405 dL_isWall_405 ?_
        obtain ⟨c406, h⟩ := chkN h
        refine g_idiv (pc := 406) B dL_isWall_406 c406 ?_
        refine g_iadd (pc := 407) B dL_isWall_407 ?_
        refine g_sub (pc := 408) [1, 2, 3, 4, 5, 6, 0, 7, 8, 9, 10] rfl ?_
        exact cb_L_isWall_L408 B ht hap hrec36 h
      · rw [if_neg c383] at h
        refine g_iconst (pc := 386) B dL_isWall_386 (-1) (by decide) ?_
        refine g_goto (pc := 387) (tgt := 408) B dL_isWall_387 (by decide) ?_
        refine g_sub (pc := 408) [1, 2, 3, 4, 5, 6, 0, 7, 8, 9, 10] rfl ?_
        exact cb_L_isWall_L408 B ht hap hrec36 h
set_option maxRecDepth 100000 in
set_option maxHeartbeats 4000000 in
theorem cb_L_isWall_L349 {D : DD} {ev : EV} {X0 : LwP} {fu : Nat} {rec36 : LwP → Nat → Nat → Nat → Nat → Int32 → Nat → Int32 → Int32 → Int32 → Int32 → Int32 → Int32 → Option (Int32 × LwP)} {X : LwP} {x0 : Nat} {x1 : Nat} {x2 : Nat} {x3 : Nat} {x4 : Int32} {x6 : Nat} {x8 : Int32} {x9 : Int32} {x10 : Int32} {x12 : Int32} {x13 : Int32} {x14 : Int32} {x15 : Int32} {s0 : Int32} {r : Int32 × LwP} (B : Amb D (foot (lM X0)) ev RL "isWall" cL_isWall 19 (some .boolean) rmL_isWall) (ht : Tb0 ev) (hap : apM X.1 X.2) (hrec36 : ∀ {X : LwP} {x0 : Nat} {x1 : Nat} {x2 : Nat} {x3 : Nat} {x4 : Int32} {x6 : Nat} {x7 : Int32} {x8 : Int32} {x9 : Int32} {x10 : Int32} {x11 : Int32} {x12 : Int32} {r : Int32 × LwP}, apM X.1 X.2 → rec36 X x0 x1 x2 x3 x4 x6 x7 x8 x9 x10 x11 x12 = some r → Gd D (foot (lM X0)) ev (QF D ev (lM X0) (.inr (some (vI r.1))) (lM r.2) rmL_isWall) (lM X) 1 40 36 [(0, vA (some x0)), (1, vA (some x1)), (2, vA (some x2)), (3, vA (some x3)), (4, vI x4), (6, vA (some x6)), (7, vI x7), (8, vI x8), (9, vI x9), (10, vI x10), (11, vI x11), (12, vI x12)] []) (h : fL_isWall_L349 fu rec36 X x0 x1 x2 x3 x4 x6 x8 x9 x10 x12 x13 x14 x15 s0 = some r) : Gd D (foot (lM X0)) ev (QF D ev (lM X0) (.inr (some (vI r.1))) (lM r.2) rmL_isWall) (lM X) 1 40 349 [(0, vA (some x0)), (1, vA (some x1)), (2, vA (some x2)), (3, vA (some x3)), (4, vI x4), (6, vA (some x6)), (8, vI x8), (9, vI x9), (10, vI x10), (12, vI x12), (13, vI x13), (14, vI x14), (15, vI x15)] [vI s0] := by
  unfold fL_isWall_L349 at h
  refine g_iconst (pc := 349) B dL_isWall_349 (0 : Int32) (by decide) ?_
  refine g_sub (pc := 350) [0, 1, 2, 3, 4, 5, 6, 7, 8, 9, 10, 11, 12] rfl ?_
  exact cb_L_isWall_L350 B ht hap hrec36 h
set_option maxRecDepth 100000 in
set_option maxHeartbeats 4000000 in
theorem cb_L_isWall_L320 {D : DD} {ev : EV} {X0 : LwP} {fu : Nat} {rec36 : LwP → Nat → Nat → Nat → Nat → Int32 → Nat → Int32 → Int32 → Int32 → Int32 → Int32 → Int32 → Option (Int32 × LwP)} {X : LwP} {x0 : Nat} {x1 : Nat} {x2 : Nat} {x3 : Nat} {x4 : Int32} {x6 : Nat} {x7 : Int32} {x9 : Int32} {x10 : Int32} {x12 : Int32} {x13 : Int32} {x14 : Int32} {x15 : Int32} {s0 : Int32} {r : Int32 × LwP} (B : Amb D (foot (lM X0)) ev RL "isWall" cL_isWall 19 (some .boolean) rmL_isWall) (ht : Tb0 ev) (hap : apM X.1 X.2) (hrec36 : ∀ {X : LwP} {x0 : Nat} {x1 : Nat} {x2 : Nat} {x3 : Nat} {x4 : Int32} {x6 : Nat} {x7 : Int32} {x8 : Int32} {x9 : Int32} {x10 : Int32} {x11 : Int32} {x12 : Int32} {r : Int32 × LwP}, apM X.1 X.2 → rec36 X x0 x1 x2 x3 x4 x6 x7 x8 x9 x10 x11 x12 = some r → Gd D (foot (lM X0)) ev (QF D ev (lM X0) (.inr (some (vI r.1))) (lM r.2) rmL_isWall) (lM X) 1 40 36 [(0, vA (some x0)), (1, vA (some x1)), (2, vA (some x2)), (3, vA (some x3)), (4, vI x4), (6, vA (some x6)), (7, vI x7), (8, vI x8), (9, vI x9), (10, vI x10), (11, vI x11), (12, vI x12)] []) (h : fL_isWall_L320 fu rec36 X x0 x1 x2 x3 x4 x6 x7 x9 x10 x12 x13 x14 x15 s0 = some r) : Gd D (foot (lM X0)) ev (QF D ev (lM X0) (.inr (some (vI r.1))) (lM r.2) rmL_isWall) (lM X) 1 40 320 [(0, vA (some x0)), (1, vA (some x1)), (2, vA (some x2)), (3, vA (some x3)), (4, vI x4), (6, vA (some x6)), (7, vI x7), (9, vI x9), (10, vI x10), (12, vI x12), (13, vI x13), (14, vI x14), (15, vI x15)] [vI s0] := by
  unfold fL_isWall_L320 at h
  refine g_istore (pc := 320) (L' := [(8, vI s0), (0, vA (some x0)), (1, vA (some x1)), (2, vA (some x2)), (3, vA (some x3)), (4, vI x4), (6, vA (some x6)), (7, vI x7), (9, vI x9), (10, vI x10), (12, vI x12), (13, vI x13), (14, vI x14), (15, vI x15)]) B dL_isWall_320 (by decide) rfl ?_
  refine g_iload (pc := 322) B dL_isWall_322 7 rfl ?_
  refine g_iload (pc := 324) B dL_isWall_324 13 rfl ?_
  refine g_if_lt (pc := 326) (tgt := 349) B dL_isWall_326 (by decide) (fun c326 => ?_) (fun c326 => ?_)
  · rw [if_pos c326] at h
    refine g_sub (pc := 349) [1, 2, 3, 4, 5, 6, 0, 8, 9, 10, 11, 12, 13] rfl ?_
    exact cb_L_isWall_L349 B ht hap hrec36 h
  · rw [if_neg c326] at h
    refine g_aload_n (pc := 329) B dL_isWall_329 3 rfl ?_
    refine g_aload_n (pc := 330) B dL_isWall_330 4 rfl ?_
    refine g_bipush (pc := 331) B dL_isWall_331 (12 : Int32) (by decide) ?_
    refine g_iload (pc := 333) B dL_isWall_333 10 rfl ?_
    refine g_iadd (pc := 335) B dL_isWall_335 ?_
    obtain ⟨c336, h⟩ := chk h
    refine gp_iald (pc := 336) (P := X) B hap c336 dL_isWall_336 ?_
    obtain ⟨c337, h⟩ := chk h
    refine gp_iald (pc := 337) (P := X) B hap c337 dL_isWall_337 ?_
    refine g_iload (pc := 338) B dL_isWall_338 5 rfl ?_
    refine g_iconst (pc := 340) B dL_isWall_340 (3 : Int32) (by decide) ?_
    refine g_irem (pc := 341) B dL_isWall_341 (by decide) ?_
    refine g_icmp_ne (pc := 342) (tgt := 349) B dL_isWall_342 (by decide) (fun c342 => ?_) (fun c342 => ?_)
    · rw [if_neg c342] at h
      refine g_sub (pc := 349) [1, 2, 3, 4, 5, 6, 0, 8, 9, 10, 11, 12, 13] rfl ?_
      exact cb_L_isWall_L349 B ht hap hrec36 h
    · rw [if_pos c342] at h
      refine g_iconst (pc := 345) B dL_isWall_345 (1 : Int32) (by decide) ?_
      refine g_goto (pc := 346) (tgt := 350) B dL_isWall_346 (by decide) ?_
      refine g_sub (pc := 350) [1, 2, 3, 4, 5, 6, 0, 8, 9, 10, 11, 12, 13] rfl ?_
      exact cb_L_isWall_L350 B ht hap hrec36 h
set_option maxRecDepth 100000 in
set_option maxHeartbeats 4000000 in
theorem cb_L_isWall_L306 {D : DD} {ev : EV} {X0 : LwP} {fu : Nat} {rec36 : LwP → Nat → Nat → Nat → Nat → Int32 → Nat → Int32 → Int32 → Int32 → Int32 → Int32 → Int32 → Option (Int32 × LwP)} {X : LwP} {x0 : Nat} {x1 : Nat} {x2 : Nat} {x3 : Nat} {x4 : Int32} {x6 : Nat} {x7 : Int32} {x8 : Int32} {x9 : Int32} {x10 : Int32} {x12 : Int32} {x13 : Int32} {x14 : Int32} {x15 : Int32} {s0 : Int32} {r : Int32 × LwP} (B : Amb D (foot (lM X0)) ev RL "isWall" cL_isWall 19 (some .boolean) rmL_isWall) (ht : Tb0 ev) (hap : apM X.1 X.2) (hrec36 : ∀ {X : LwP} {x0 : Nat} {x1 : Nat} {x2 : Nat} {x3 : Nat} {x4 : Int32} {x6 : Nat} {x7 : Int32} {x8 : Int32} {x9 : Int32} {x10 : Int32} {x11 : Int32} {x12 : Int32} {r : Int32 × LwP}, apM X.1 X.2 → rec36 X x0 x1 x2 x3 x4 x6 x7 x8 x9 x10 x11 x12 = some r → Gd D (foot (lM X0)) ev (QF D ev (lM X0) (.inr (some (vI r.1))) (lM r.2) rmL_isWall) (lM X) 1 40 36 [(0, vA (some x0)), (1, vA (some x1)), (2, vA (some x2)), (3, vA (some x3)), (4, vI x4), (6, vA (some x6)), (7, vI x7), (8, vI x8), (9, vI x9), (10, vI x10), (11, vI x11), (12, vI x12)] []) (h : fL_isWall_L306 fu rec36 X x0 x1 x2 x3 x4 x6 x7 x8 x9 x10 x12 x13 x14 x15 s0 = some r) : Gd D (foot (lM X0)) ev (QF D ev (lM X0) (.inr (some (vI r.1))) (lM r.2) rmL_isWall) (lM X) 1 40 306 [(0, vA (some x0)), (1, vA (some x1)), (2, vA (some x2)), (3, vA (some x3)), (4, vI x4), (6, vA (some x6)), (7, vI x7), (8, vI x8), (9, vI x9), (10, vI x10), (12, vI x12), (13, vI x13), (14, vI x14), (15, vI x15)] [vI s0] := by
  unfold fL_isWall_L306 at h
  refine g_istore (pc := 306) (L' := [(18, vI s0), (0, vA (some x0)), (1, vA (some x1)), (2, vA (some x2)), (3, vA (some x3)), (4, vI x4), (6, vA (some x6)), (7, vI x7), (8, vI x8), (9, vI x9), (10, vI x10), (12, vI x12), (13, vI x13), (14, vI x14), (15, vI x15)]) B dL_isWall_306 (by decide) rfl ?_
  refine g_iload (pc := 308) B dL_isWall_308 0 rfl ?_
  refine g_if_eq (pc := 310) (tgt := 318) B dL_isWall_310 (by decide) (fun c310 => ?_) (fun c310 => ?_)
  · rw [if_pos c310] at h
    refine g_iload (pc := 318) B dL_isWall_318 8 rfl ?_
    refine g_sub (pc := 320) [1, 2, 3, 4, 5, 6, 7, 9, 10, 11, 12, 13, 14] rfl ?_
    exact cb_L_isWall_L320 B ht hap hrec36 h
  · rw [if_neg c310] at h
    refine g_iload (pc := 313) B dL_isWall_313 11 rfl ?_
    refine g_goto (pc := 315) (tgt := 320) B dL_isWall_315 (by decide) ?_
    refine g_sub (pc := 320) [1, 2, 3, 4, 5, 6, 7, 9, 10, 11, 12, 13, 14] rfl ?_
    exact cb_L_isWall_L320 B ht hap hrec36 h
set_option maxRecDepth 100000 in
set_option maxHeartbeats 4000000 in
theorem cb_L_isWall_L305 {D : DD} {ev : EV} {X0 : LwP} {fu : Nat} {rec36 : LwP → Nat → Nat → Nat → Nat → Int32 → Nat → Int32 → Int32 → Int32 → Int32 → Int32 → Int32 → Option (Int32 × LwP)} {X : LwP} {x0 : Nat} {x1 : Nat} {x2 : Nat} {x3 : Nat} {x4 : Int32} {x6 : Nat} {x7 : Int32} {x8 : Int32} {x9 : Int32} {x10 : Int32} {x12 : Int32} {x13 : Int32} {x14 : Int32} {x15 : Int32} {r : Int32 × LwP} (B : Amb D (foot (lM X0)) ev RL "isWall" cL_isWall 19 (some .boolean) rmL_isWall) (ht : Tb0 ev) (hap : apM X.1 X.2) (hrec36 : ∀ {X : LwP} {x0 : Nat} {x1 : Nat} {x2 : Nat} {x3 : Nat} {x4 : Int32} {x6 : Nat} {x7 : Int32} {x8 : Int32} {x9 : Int32} {x10 : Int32} {x11 : Int32} {x12 : Int32} {r : Int32 × LwP}, apM X.1 X.2 → rec36 X x0 x1 x2 x3 x4 x6 x7 x8 x9 x10 x11 x12 = some r → Gd D (foot (lM X0)) ev (QF D ev (lM X0) (.inr (some (vI r.1))) (lM r.2) rmL_isWall) (lM X) 1 40 36 [(0, vA (some x0)), (1, vA (some x1)), (2, vA (some x2)), (3, vA (some x3)), (4, vI x4), (6, vA (some x6)), (7, vI x7), (8, vI x8), (9, vI x9), (10, vI x10), (11, vI x11), (12, vI x12)] []) (h : fL_isWall_L305 fu rec36 X x0 x1 x2 x3 x4 x6 x7 x8 x9 x10 x12 x13 x14 x15 = some r) : Gd D (foot (lM X0)) ev (QF D ev (lM X0) (.inr (some (vI r.1))) (lM r.2) rmL_isWall) (lM X) 1 40 305 [(0, vA (some x0)), (1, vA (some x1)), (2, vA (some x2)), (3, vA (some x3)), (4, vI x4), (6, vA (some x6)), (7, vI x7), (8, vI x8), (9, vI x9), (10, vI x10), (12, vI x12), (13, vI x13), (14, vI x14), (15, vI x15)] [] := by
  unfold fL_isWall_L305 at h
  refine g_iconst (pc := 305) B dL_isWall_305 (0 : Int32) (by decide) ?_
  refine g_sub (pc := 306) [0, 1, 2, 3, 4, 5, 6, 7, 8, 9, 10, 11, 12, 13] rfl ?_
  exact cb_L_isWall_L306 B ht hap hrec36 h
set_option maxRecDepth 100000 in
set_option maxHeartbeats 4000000 in
theorem cb_L_isWall_L242 {D : DD} {ev : EV} {X0 : LwP} {fu : Nat} {rec36 : LwP → Nat → Nat → Nat → Nat → Int32 → Nat → Int32 → Int32 → Int32 → Int32 → Int32 → Int32 → Option (Int32 × LwP)} {X : LwP} {x0 : Nat} {x1 : Nat} {x2 : Nat} {x3 : Nat} {x4 : Int32} {x6 : Nat} {x7 : Int32} {x8 : Int32} {x9 : Int32} {x10 : Int32} {x12 : Int32} {x13 : Int32} {x14 : Int32} {x15 : Int32} {x16 : Int32} {x17 : Int32} {r : Int32 × LwP} (B : Amb D (foot (lM X0)) ev RL "isWall" cL_isWall 19 (some .boolean) rmL_isWall) (ht : Tb0 ev) (hap : apM X.1 X.2) (hrec36 : ∀ {X : LwP} {x0 : Nat} {x1 : Nat} {x2 : Nat} {x3 : Nat} {x4 : Int32} {x6 : Nat} {x7 : Int32} {x8 : Int32} {x9 : Int32} {x10 : Int32} {x11 : Int32} {x12 : Int32} {r : Int32 × LwP}, apM X.1 X.2 → rec36 X x0 x1 x2 x3 x4 x6 x7 x8 x9 x10 x11 x12 = some r → Gd D (foot (lM X0)) ev (QF D ev (lM X0) (.inr (some (vI r.1))) (lM r.2) rmL_isWall) (lM X) 1 40 36 [(0, vA (some x0)), (1, vA (some x1)), (2, vA (some x2)), (3, vA (some x3)), (4, vI x4), (6, vA (some x6)), (7, vI x7), (8, vI x8), (9, vI x9), (10, vI x10), (11, vI x11), (12, vI x12)] []) (h : fL_isWall_L242 fu rec36 X x0 x1 x2 x3 x4 x6 x7 x8 x9 x10 x12 x13 x14 x15 x16 x17 = some r) : Gd D (foot (lM X0)) ev (QF D ev (lM X0) (.inr (some (vI r.1))) (lM r.2) rmL_isWall) (lM X) 1 40 242 [(0, vA (some x0)), (1, vA (some x1)), (2, vA (some x2)), (3, vA (some x3)), (4, vI x4), (6, vA (some x6)), (7, vI x7), (8, vI x8), (9, vI x9), (10, vI x10), (12, vI x12), (13, vI x13), (14, vI x14), (15, vI x15), (16, vI x16), (17, vI x17)] [] := by
  unfold fL_isWall_L242 at h
  refine g_iload (pc := 242) B dL_isWall_242 13 rfl ?_
  refine g_if_lt (pc := 244) (tgt := 305) B dL_isWall_244 (by decide) (fun c244 => ?_) (fun c244 => ?_)
  · rw [if_pos c244] at h
    refine g_sub (pc := 305) [0, 1, 2, 3, 4, 5, 6, 7, 8, 9, 10, 11, 12, 13] rfl ?_
    exact cb_L_isWall_L305 B ht hap hrec36 h
  · rw [if_neg c244] at h
    refine g_iload (pc := 247) B dL_isWall_247 8 rfl ?_
    refine g_iload (pc := 249) B dL_isWall_249 13 rfl ?_
    refine g_aload_n (pc := 251) B dL_isWall_251 1 rfl ?_
    refine g_bipush (pc := 252) B dL_isWall_252 (6 : Int32) (by decide) ?_
    obtain ⟨c254, h⟩ := chk h
    refine gp_iald (pc := 254) (P := X) B hap c254 dL_isWall_254 ?_
    obtain ⟨c255, h⟩ := chkN h
    refine g_irem (pc := 255) B dL_isWall_255 c255 ?_
    refine g_icmp_lt (pc := 256) (tgt := 305) B dL_isWall_256 (by decide) (fun c256 => ?_) (fun c256 => ?_)
    · rw [if_pos c256] at h
      refine g_sub (pc := 305) [0, 1, 2, 3, 4, 5, 6, 7, 8, 9, 10, 11, 12, 13] rfl ?_
      exact cb_L_isWall_L305 B ht hap hrec36 h
    · rw [if_neg c256] at h
      refine g_iload (pc := 259) B dL_isWall_259 8 rfl ?_
      refine g_iload (pc := 261) B dL_isWall_261 13 rfl ?_
      refine g_aload_n (pc := 263) B dL_isWall_263 1 rfl ?_
      refine g_bipush (pc := 264) B dL_isWall_264 (6 : Int32) (by decide) ?_
      obtain ⟨c266, h⟩ := chk h
      refine gp_iald (pc := 266) (P := X) B hap c266 dL_isWall_266 ?_
      obtain ⟨c267, h⟩ := chkN h
      refine g_irem (pc := 267) B dL_isWall_267 c267 ?_
      refine g_iload (pc := 268) B dL_isWall_268 14 rfl ?_
      refine g_iadd (pc := 270) B dL_isWall_270 ?_
      refine g_icmp_ge (pc := 271) (tgt := 305) B dL_isWall_271 (by decide) (fun c271 => ?_) (fun c271 => ?_)
      · rw [if_pos c271] at h
        refine g_sub (pc := 305) [0, 1, 2, 3, 4, 5, 6, 7, 8, 9, 10, 11, 12, 13] rfl ?_
        exact cb_L_isWall_L305 B ht hap hrec36 h
      · rw [if_neg c271] at h
        refine g_iload (pc := 274) B dL_isWall_274 9 rfl ?_
        refine g_iload (pc := 276) B dL_isWall_276 13 rfl ?_
        refine g_aload_n (pc := 278) B dL_isWall_278 1 rfl ?_
        refine g_bipush (pc := 279) B dL_isWall_279 (6 : Int32) (by decide) ?_
        obtain ⟨c281, h⟩ := chk h
        refine gp_iald (pc := 281) (P := X) B hap c281 dL_isWall_281 ?_
        obtain ⟨c282, h⟩ := chkN h
        refine g_idiv (pc := 282) B dL_isWall_282 c282 ?_
        refine g_icmp_lt (pc := 283) (tgt := 305) B dL_isWall_283 (by decide) (fun c283 => ?_) (fun c283 => ?_)
        · rw [if_pos c283] at h
          refine g_sub (pc := 305) [0, 1, 2, 3, 4, 5, 6, 7, 8, 9, 10, 11, 12, 13] rfl ?_
          exact cb_L_isWall_L305 B ht hap hrec36 h
        · rw [if_neg c283] at h
          refine g_iload (pc := 286) B dL_isWall_286 9 rfl ?_
          refine g_iload (pc := 288) B dL_isWall_288 13 rfl ?_
          refine g_aload_n (pc := 290) B dL_isWall_290 1 rfl ?_
          refine g_bipush (pc := 291) B dL_isWall_291 (6 : Int32) (by decide) ?_
          obtain ⟨c293, h⟩ := chk h
          refine gp_iald (pc := 293) (P := X) B hap c293 dL_isWall_293 ?_
          obtain ⟨c294, h⟩ := chkN h
          refine g_idiv (pc := 294) B dL_isWall_294 c294 ?_
          refine g_iload (pc := 295) B dL_isWall_295 15 rfl ?_
          refine g_iadd (pc := 297) B dL_isWall_297 ?_
          refine g_icmp_ge (pc := 298) (tgt := 305) B dL_isWall_298 (by decide) (fun c298 => ?_) (fun c298 => ?_)
          · rw [if_pos c298] at h
            refine g_sub (pc := 305) [0, 1, 2, 3, 4, 5, 6, 7, 8, 9, 10, 11, 12, 13] rfl ?_
            exact cb_L_isWall_L305 B ht hap hrec36 h
          · rw [if_neg c298] at h
            refine g_iconst (pc := 301) B dL_isWall_301 (1 : Int32) (by decide) ?_
            refine g_goto (pc := 302) (tgt := 306) B dL_isWall_302 (by decide) ?_
            refine g_sub (pc := 306) [0, 1, 2, 3, 4, 5, 6, 7, 8, 9, 10, 11, 12, 13] rfl ?_
            exact cb_L_isWall_L306 B ht hap hrec36 h
set_option maxRecDepth 100000 in
set_option maxHeartbeats 4000000 in
theorem cb_L_isWall_L194b {D : DD} {ev : EV} {X0 : LwP} {fu : Nat} {rec36 : LwP → Nat → Nat → Nat → Nat → Int32 → Nat → Int32 → Int32 → Int32 → Int32 → Int32 → Int32 → Option (Int32 × LwP)} {rec194 : LwP → Nat → Nat → Nat → Nat → Int32 → Nat → Int32 → Int32 → Int32 → Int32 → Int32 → Int32 → Int32 → Int32 → Int32 → Int32 → Int32 → Option (Int32 × LwP)} {X : LwP} {x0 : Nat} {x1 : Nat} {x2 : Nat} {x3 : Nat} {x4 : Int32} {x6 : Nat} {x7 : Int32} {x8 : Int32} {x9 : Int32} {x10 : Int32} {x12 : Int32} {x13 : Int32} {x14 : Int32} {x15 : Int32} {x16 : Int32} {x17 : Int32} {x18 : Int32} {r : Int32 × LwP} (B : Amb D (foot (lM X0)) ev RL "isWall" cL_isWall 19 (some .boolean) rmL_isWall) (ht : Tb0 ev) (hap : apM X.1 X.2) (hrec36 : ∀ {X : LwP} {x0 : Nat} {x1 : Nat} {x2 : Nat} {x3 : Nat} {x4 : Int32} {x6 : Nat} {x7 : Int32} {x8 : Int32} {x9 : Int32} {x10 : Int32} {x11 : Int32} {x12 : Int32} {r : Int32 × LwP}, apM X.1 X.2 → rec36 X x0 x1 x2 x3 x4 x6 x7 x8 x9 x10 x11 x12 = some r → Gd D (foot (lM X0)) ev (QF D ev (lM X0) (.inr (some (vI r.1))) (lM r.2) rmL_isWall) (lM X) 1 40 36 [(0, vA (some x0)), (1, vA (some x1)), (2, vA (some x2)), (3, vA (some x3)), (4, vI x4), (6, vA (some x6)), (7, vI x7), (8, vI x8), (9, vI x9), (10, vI x10), (11, vI x11), (12, vI x12)] []) (hrec194 : ∀ {X : LwP} {x0 : Nat} {x1 : Nat} {x2 : Nat} {x3 : Nat} {x4 : Int32} {x6 : Nat} {x7 : Int32} {x8 : Int32} {x9 : Int32} {x10 : Int32} {x12 : Int32} {x13 : Int32} {x14 : Int32} {x15 : Int32} {x16 : Int32} {x17 : Int32} {x18 : Int32} {r : Int32 × LwP}, apM X.1 X.2 → rec194 X x0 x1 x2 x3 x4 x6 x7 x8 x9 x10 x12 x13 x14 x15 x16 x17 x18 = some r → Gd D (foot (lM X0)) ev (QF D ev (lM X0) (.inr (some (vI r.1))) (lM r.2) rmL_isWall) (lM X) 1 40 194 [(0, vA (some x0)), (1, vA (some x1)), (2, vA (some x2)), (3, vA (some x3)), (4, vI x4), (6, vA (some x6)), (7, vI x7), (8, vI x8), (9, vI x9), (10, vI x10), (12, vI x12), (13, vI x13), (14, vI x14), (15, vI x15), (16, vI x16), (17, vI x17), (18, vI x18)] []) (h : fL_isWall_L194b fu rec36 rec194 X x0 x1 x2 x3 x4 x6 x7 x8 x9 x10 x12 x13 x14 x15 x16 x17 x18 = some r) : Gd D (foot (lM X0)) ev (QF D ev (lM X0) (.inr (some (vI r.1))) (lM r.2) rmL_isWall) (lM X) 1 40 194 [(0, vA (some x0)), (1, vA (some x1)), (2, vA (some x2)), (3, vA (some x3)), (4, vI x4), (6, vA (some x6)), (7, vI x7), (8, vI x8), (9, vI x9), (10, vI x10), (12, vI x12), (13, vI x13), (14, vI x14), (15, vI x15), (16, vI x16), (17, vI x17), (18, vI x18)] [] := by
  unfold fL_isWall_L194b at h
  refine g_iload (pc := 194) B dL_isWall_194 16 rfl ?_
  refine g_iload (pc := 196) B dL_isWall_196 15 rfl ?_
  refine g_icmp_ge (pc := 198) (tgt := 242) B dL_isWall_198 (by decide) (fun c198 => ?_) (fun c198 => ?_)
  · rw [if_pos c198] at h
    refine g_sub (pc := 242) [0, 1, 2, 3, 4, 5, 6, 7, 8, 9, 10, 11, 12, 13, 14, 15] rfl ?_
    exact cb_L_isWall_L242 B ht hap hrec36 h
  · rw [if_neg c198] at h
    refine g_iload (pc := 201) B dL_isWall_201 13 rfl ?_
    refine g_if_lt (pc := 203) (tgt := 242) B dL_isWall_203 (by decide) (fun c203 => ?_) (fun c203 => ?_)
    · rw [if_pos c203] at h
      refine g_sub (pc := 242) [0, 1, 2, 3, 4, 5, 6, 7, 8, 9, 10, 11, 12, 13, 14, 15] rfl ?_
      exact cb_L_isWall_L242 B ht hap hrec36 h
    · rw [if_neg c203] at h
      refine g_aload (pc := 206) B dL_isWall_206 5 rfl ?_
      refine g_iload (pc := 208) B dL_isWall_208 13 rfl ?_
      refine g_aload_n (pc := 210) B dL_isWall_210 1 rfl ?_
      refine g_bipush (pc := 211) B dL_isWall_211 (6 : Int32) (by decide) ?_
      obtain ⟨c213, h⟩ := chk h
      refine gp_iald (pc := 213) (P := X) B hap c213 dL_isWall_213 ?_
      obtain ⟨c214, h⟩ := chkN h
      refine g_idiv (pc := 214) B dL_isWall_214 c214 ?_
      refine g_iload (pc := 215) B dL_isWall_215 16 rfl ?_
      refine g_iadd (pc := 217) B dL_isWall_217 ?_
      refine g_dup2 (pc := 218) B dL_isWall_218 rfl rfl ?_
      obtain ⟨c219, h⟩ := chk h
      refine gp_lald (pc := 219) (P := X) B hap c219 dL_isWall_219 ?_
      refine g_lconst (pc := 220) B dL_isWall_220 (1 : Int64) (by decide) ?_
      refine g_iload (pc := 221) B dL_isWall_221 14 rfl ?_
      refine g_lshl (pc := 223) B dL_isWall_223 ?_
      refine g_lconst (pc := 224) B dL_isWall_224 (1 : Int64) (by decide) ?_
      refine g_lsub (pc := 225) B dL_isWall_225 ?_
      refine g_iload (pc := 226) B dL_isWall_226 13 rfl ?_
      refine g_aload_n (pc := 228) B dL_isWall_228 1 rfl ?_
      refine g_bipush (pc := 229) B dL_isWall_229 (6 : Int32) (by decide) ?_
      obtain ⟨c231, h⟩ := chk h
      refine gp_iald (pc := 231) (P := X) B hap c231 dL_isWall_231 ?_
      obtain ⟨c232, h⟩ := chkN h
      refine g_irem (pc := 232) B dL_isWall_232 c232 ?_
      refine g_lshl (pc := 233) B dL_isWall_233 ?_
      refine g_lor (pc := 234) B dL_isWall_234 ?_
      obtain ⟨c235, h⟩ := chk h
      refine gp_last (pc := 235) (P := X) B hap c235 dL_isWall_235 ?_
      refine g_iinc (pc := 236) (v := (x18 + (1 : Int32))) (L' := [(18, vI (x18 + (1 : Int32))), (0, vA (some x0)), (1, vA (some x1)), (2, vA (some x2)), (3, vA (some x3)), (4, vI x4), (6, vA (some x6)), (7, vI x7), (8, vI x8), (9, vI x9), (10, vI x10), (12, vI x12), (13, vI x13), (14, vI x14), (15, vI x15), (16, vI x16), (17, vI x17)]) B dL_isWall_236 (by decide) 16 rfl rfl rfl ?_
      refine g_goto (pc := 239) (tgt := 194) B dL_isWall_239 (by decide) ?_
      refine g_sub (pc := 194) [1, 2, 3, 4, 5, 6, 7, 8, 9, 10, 11, 12, 13, 14, 15, 16, 0] rfl ?_
      exact hrec194 hap h
theorem cb_L_isWall_L194n {D : DD} {ev : EV} {X0 : LwP} {fu : Nat} {rec36 : LwP → Nat → Nat → Nat → Nat → Int32 → Nat → Int32 → Int32 → Int32 → Int32 → Int32 → Int32 → Option (Int32 × LwP)} (B : Amb D (foot (lM X0)) ev RL "isWall" cL_isWall 19 (some .boolean) rmL_isWall) (ht : Tb0 ev) (hrec36 : ∀ {X : LwP} {x0 : Nat} {x1 : Nat} {x2 : Nat} {x3 : Nat} {x4 : Int32} {x6 : Nat} {x7 : Int32} {x8 : Int32} {x9 : Int32} {x10 : Int32} {x11 : Int32} {x12 : Int32} {r : Int32 × LwP}, apM X.1 X.2 → rec36 X x0 x1 x2 x3 x4 x6 x7 x8 x9 x10 x11 x12 = some r → Gd D (foot (lM X0)) ev (QF D ev (lM X0) (.inr (some (vI r.1))) (lM r.2) rmL_isWall) (lM X) 1 40 36 [(0, vA (some x0)), (1, vA (some x1)), (2, vA (some x2)), (3, vA (some x3)), (4, vI x4), (6, vA (some x6)), (7, vI x7), (8, vI x8), (9, vI x9), (10, vI x10), (11, vI x11), (12, vI x12)] []) : ∀ (n : Nat) {X : LwP} {x0 : Nat} {x1 : Nat} {x2 : Nat} {x3 : Nat} {x4 : Int32} {x6 : Nat} {x7 : Int32} {x8 : Int32} {x9 : Int32} {x10 : Int32} {x12 : Int32} {x13 : Int32} {x14 : Int32} {x15 : Int32} {x16 : Int32} {x17 : Int32} {x18 : Int32} {r : Int32 × LwP}, apM X.1 X.2 → fL_isWall_L194 fu rec36 n X x0 x1 x2 x3 x4 x6 x7 x8 x9 x10 x12 x13 x14 x15 x16 x17 x18 = some r → Gd D (foot (lM X0)) ev (QF D ev (lM X0) (.inr (some (vI r.1))) (lM r.2) rmL_isWall) (lM X) 1 40 194 [(0, vA (some x0)), (1, vA (some x1)), (2, vA (some x2)), (3, vA (some x3)), (4, vI x4), (6, vA (some x6)), (7, vI x7), (8, vI x8), (9, vI x9), (10, vI x10), (12, vI x12), (13, vI x13), (14, vI x14), (15, vI x15), (16, vI x16), (17, vI x17), (18, vI x18)] [] := by
  intro n
  induction n with
  | zero => intro X x0 x1 x2 x3 x4 x6 x7 x8 x9 x10 x12 x13 x14 x15 x16 x17 x18 r hap h; exact nomatch h
  | succ n ih => intro X x0 x1 x2 x3 x4 x6 x7 x8 x9 x10 x12 x13 x14 x15 x16 x17 x18 r hap h; exact cb_L_isWall_L194b (fu := fu) B ht hap hrec36 (fun hap9 h9 => ih hap9 h9) h
theorem cb_L_isWall_L194 {D : DD} {ev : EV} {X0 : LwP} {fu : Nat} {rec36 : LwP → Nat → Nat → Nat → Nat → Int32 → Nat → Int32 → Int32 → Int32 → Int32 → Int32 → Int32 → Option (Int32 × LwP)} {X : LwP} {x0 : Nat} {x1 : Nat} {x2 : Nat} {x3 : Nat} {x4 : Int32} {x6 : Nat} {x7 : Int32} {x8 : Int32} {x9 : Int32} {x10 : Int32} {x12 : Int32} {x13 : Int32} {x14 : Int32} {x15 : Int32} {x16 : Int32} {x17 : Int32} {x18 : Int32} {n : Nat} {r : Int32 × LwP} (B : Amb D (foot (lM X0)) ev RL "isWall" cL_isWall 19 (some .boolean) rmL_isWall) (ht : Tb0 ev) (hap : apM X.1 X.2) (hrec36 : ∀ {X : LwP} {x0 : Nat} {x1 : Nat} {x2 : Nat} {x3 : Nat} {x4 : Int32} {x6 : Nat} {x7 : Int32} {x8 : Int32} {x9 : Int32} {x10 : Int32} {x11 : Int32} {x12 : Int32} {r : Int32 × LwP}, apM X.1 X.2 → rec36 X x0 x1 x2 x3 x4 x6 x7 x8 x9 x10 x11 x12 = some r → Gd D (foot (lM X0)) ev (QF D ev (lM X0) (.inr (some (vI r.1))) (lM r.2) rmL_isWall) (lM X) 1 40 36 [(0, vA (some x0)), (1, vA (some x1)), (2, vA (some x2)), (3, vA (some x3)), (4, vI x4), (6, vA (some x6)), (7, vI x7), (8, vI x8), (9, vI x9), (10, vI x10), (11, vI x11), (12, vI x12)] []) (h : fL_isWall_L194 fu rec36 n X x0 x1 x2 x3 x4 x6 x7 x8 x9 x10 x12 x13 x14 x15 x16 x17 x18 = some r) : Gd D (foot (lM X0)) ev (QF D ev (lM X0) (.inr (some (vI r.1))) (lM r.2) rmL_isWall) (lM X) 1 40 194 [(0, vA (some x0)), (1, vA (some x1)), (2, vA (some x2)), (3, vA (some x3)), (4, vI x4), (6, vA (some x6)), (7, vI x7), (8, vI x8), (9, vI x9), (10, vI x10), (12, vI x12), (13, vI x13), (14, vI x14), (15, vI x15), (16, vI x16), (17, vI x17), (18, vI x18)] [] := cb_L_isWall_L194n B ht (fun hap9 h9 => hrec36 hap9 h9) n hap h
set_option maxRecDepth 100000 in
set_option maxHeartbeats 4000000 in
theorem cb_L_isWall_L191 {D : DD} {ev : EV} {X0 : LwP} {fu : Nat} {rec36 : LwP → Nat → Nat → Nat → Nat → Int32 → Nat → Int32 → Int32 → Int32 → Int32 → Int32 → Int32 → Option (Int32 × LwP)} {X : LwP} {x0 : Nat} {x1 : Nat} {x2 : Nat} {x3 : Nat} {x4 : Int32} {x6 : Nat} {x7 : Int32} {x8 : Int32} {x9 : Int32} {x10 : Int32} {x12 : Int32} {x13 : Int32} {x14 : Int32} {x15 : Int32} {x16 : Int32} {x17 : Int32} {r : Int32 × LwP} (B : Amb D (foot (lM X0)) ev RL "isWall" cL_isWall 19 (some .boolean) rmL_isWall) (ht : Tb0 ev) (hap : apM X.1 X.2) (hrec36 : ∀ {X : LwP} {x0 : Nat} {x1 : Nat} {x2 : Nat} {x3 : Nat} {x4 : Int32} {x6 : Nat} {x7 : Int32} {x8 : Int32} {x9 : Int32} {x10 : Int32} {x11 : Int32} {x12 : Int32} {r : Int32 × LwP}, apM X.1 X.2 → rec36 X x0 x1 x2 x3 x4 x6 x7 x8 x9 x10 x11 x12 = some r → Gd D (foot (lM X0)) ev (QF D ev (lM X0) (.inr (some (vI r.1))) (lM r.2) rmL_isWall) (lM X) 1 40 36 [(0, vA (some x0)), (1, vA (some x1)), (2, vA (some x2)), (3, vA (some x3)), (4, vI x4), (6, vA (some x6)), (7, vI x7), (8, vI x8), (9, vI x9), (10, vI x10), (11, vI x11), (12, vI x12)] []) (h : fL_isWall_L191 fu rec36 X x0 x1 x2 x3 x4 x6 x7 x8 x9 x10 x12 x13 x14 x15 x16 x17 = some r) : Gd D (foot (lM X0)) ev (QF D ev (lM X0) (.inr (some (vI r.1))) (lM r.2) rmL_isWall) (lM X) 1 40 191 [(0, vA (some x0)), (1, vA (some x1)), (2, vA (some x2)), (3, vA (some x3)), (4, vI x4), (6, vA (some x6)), (7, vI x7), (8, vI x8), (9, vI x9), (10, vI x10), (12, vI x12), (13, vI x13), (14, vI x14), (15, vI x15), (16, vI x16), (17, vI x17)] [] := by
  unfold fL_isWall_L191 at h
  refine g_iconst (pc := 191) B dL_isWall_191 (0 : Int32) (by decide) ?_
  refine g_istore (pc := 192) (L' := [(18, vI (0 : Int32)), (0, vA (some x0)), (1, vA (some x1)), (2, vA (some x2)), (3, vA (some x3)), (4, vI x4), (6, vA (some x6)), (7, vI x7), (8, vI x8), (9, vI x9), (10, vI x10), (12, vI x12), (13, vI x13), (14, vI x14), (15, vI x15), (16, vI x16), (17, vI x17)]) B dL_isWall_192 (by decide) rfl ?_
  refine g_sub (pc := 194) [1, 2, 3, 4, 5, 6, 7, 8, 9, 10, 11, 12, 13, 14, 15, 16, 0] rfl ?_
  exact cb_L_isWall_L194 B ht hap hrec36 h
set_option maxRecDepth 100000 in
set_option maxHeartbeats 4000000 in
theorem cb_L_isWall_L183 {D : DD} {ev : EV} {X0 : LwP} {fu : Nat} {rec36 : LwP → Nat → Nat → Nat → Nat → Int32 → Nat → Int32 → Int32 → Int32 → Int32 → Int32 → Int32 → Option (Int32 × LwP)} {rec108 : LwP → Nat → Nat → Nat → Nat → Int32 → Nat → Int32 → Int32 → Int32 → Int32 → Int32 → Int32 → Int32 → Int32 → Int32 → Int32 → Int32 → Option (Int32 × LwP)} {X : LwP} {x0 : Nat} {x1 : Nat} {x2 : Nat} {x3 : Nat} {x4 : Int32} {x6 : Nat} {x7 : Int32} {x8 : Int32} {x9 : Int32} {x10 : Int32} {x12 : Int32} {x13 : Int32} {x14 : Int32} {x16 : Int32} {x17 : Int32} {x18 : Int32} {s0 : Int32} {r : Int32 × LwP} (B : Amb D (foot (lM X0)) ev RL "isWall" cL_isWall 19 (some .boolean) rmL_isWall) (ht : Tb0 ev) (hap : apM X.1 X.2) (hrec36 : ∀ {X : LwP} {x0 : Nat} {x1 : Nat} {x2 : Nat} {x3 : Nat} {x4 : Int32} {x6 : Nat} {x7 : Int32} {x8 : Int32} {x9 : Int32} {x10 : Int32} {x11 : Int32} {x12 : Int32} {r : Int32 × LwP}, apM X.1 X.2 → rec36 X x0 x1 x2 x3 x4 x6 x7 x8 x9 x10 x11 x12 = some r → Gd D (foot (lM X0)) ev (QF D ev (lM X0) (.inr (some (vI r.1))) (lM r.2) rmL_isWall) (lM X) 1 40 36 [(0, vA (some x0)), (1, vA (some x1)), (2, vA (some x2)), (3, vA (some x3)), (4, vI x4), (6, vA (some x6)), (7, vI x7), (8, vI x8), (9, vI x9), (10, vI x10), (11, vI x11), (12, vI x12)] []) (hrec108 : ∀ {X : LwP} {x0 : Nat} {x1 : Nat} {x2 : Nat} {x3 : Nat} {x4 : Int32} {x6 : Nat} {x7 : Int32} {x8 : Int32} {x9 : Int32} {x10 : Int32} {x12 : Int32} {x13 : Int32} {x14 : Int32} {x15 : Int32} {x16 : Int32} {x17 : Int32} {x18 : Int32} {r : Int32 × LwP}, apM X.1 X.2 → rec108 X x0 x1 x2 x3 x4 x6 x7 x8 x9 x10 x12 x13 x14 x15 x16 x17 x18 = some r → Gd D (foot (lM X0)) ev (QF D ev (lM X0) (.inr (some (vI r.1))) (lM r.2) rmL_isWall) (lM X) 1 40 108 [(0, vA (some x0)), (1, vA (some x1)), (2, vA (some x2)), (3, vA (some x3)), (4, vI x4), (6, vA (some x6)), (7, vI x7), (8, vI x8), (9, vI x9), (10, vI x10), (12, vI x12), (13, vI x13), (14, vI x14), (15, vI x15), (16, vI x16), (17, vI x17), (18, vI x18)] []) (h : fL_isWall_L183 fu rec36 rec108 X x0 x1 x2 x3 x4 x6 x7 x8 x9 x10 x12 x13 x14 x16 x17 x18 s0 = some r) : Gd D (foot (lM X0)) ev (QF D ev (lM X0) (.inr (some (vI r.1))) (lM r.2) rmL_isWall) (lM X) 1 40 183 [(0, vA (some x0)), (1, vA (some x1)), (2, vA (some x2)), (3, vA (some x3)), (4, vI x4), (6, vA (some x6)), (7, vI x7), (8, vI x8), (9, vI x9), (10, vI x10), (12, vI x12), (13, vI x13), (14, vI x14), (16, vI x16), (17, vI x17), (18, vI x18)] [vI s0] := by
  unfold fL_isWall_L183 at h
  refine g_istore (pc := 183) (L' := [(15, vI s0), (0, vA (some x0)), (1, vA (some x1)), (2, vA (some x2)), (3, vA (some x3)), (4, vI x4), (6, vA (some x6)), (7, vI x7), (8, vI x8), (9, vI x9), (10, vI x10), (12, vI x12), (13, vI x13), (14, vI x14), (16, vI x16), (17, vI x17), (18, vI x18)]) B dL_isWall_183 (by decide) rfl ?_
  refine g_iinc (pc := 185) (v := (x18 + (1 : Int32))) (L' := [(18, vI (x18 + (1 : Int32))), (15, vI s0), (0, vA (some x0)), (1, vA (some x1)), (2, vA (some x2)), (3, vA (some x3)), (4, vI x4), (6, vA (some x6)), (7, vI x7), (8, vI x8), (9, vI x9), (10, vI x10), (12, vI x12), (13, vI x13), (14, vI x14), (16, vI x16), (17, vI x17)]) B dL_isWall_185 (by decide) 16 rfl rfl rfl ?_
  refine g_goto (pc := 188) (tgt := 108) B dL_isWall_188 (by decide) ?_
  refine g_sub (pc := 108) [2, 3, 4, 5, 6, 7, 8, 9, 10, 11, 12, 13, 14, 1, 15, 16, 0] rfl ?_
  exact hrec108 hap h
set_option maxRecDepth 100000 in
set_option maxHeartbeats 4000000 in
theorem cb_L_isWall_L150 {D : DD} {ev : EV} {X0 : LwP} {fu : Nat} {rec36 : LwP → Nat → Nat → Nat → Nat → Int32 → Nat → Int32 → Int32 → Int32 → Int32 → Int32 → Int32 → Option (Int32 × LwP)} {rec108 : LwP → Nat → Nat → Nat → Nat → Int32 → Nat → Int32 → Int32 → Int32 → Int32 → Int32 → Int32 → Int32 → Int32 → Int32 → Int32 → Int32 → Option (Int32 × LwP)} {X : LwP} {x0 : Nat} {x1 : Nat} {x2 : Nat} {x3 : Nat} {x4 : Int32} {x6 : Nat} {x7 : Int32} {x8 : Int32} {x9 : Int32} {x10 : Int32} {x12 : Int32} {x13 : Int32} {x14 : Int32} {x16 : Int32} {x17 : Int32} {x18 : Int32} {r : Int32 × LwP} (B : Amb D (foot (lM X0)) ev RL "isWall" cL_isWall 19 (some .boolean) rmL_isWall) (ht : Tb0 ev) (hap : apM X.1 X.2) (hrec36 : ∀ {X : LwP} {x0 : Nat} {x1 : Nat} {x2 : Nat} {x3 : Nat} {x4 : Int32} {x6 : Nat} {x7 : Int32} {x8 : Int32} {x9 : Int32} {x10 : Int32} {x11 : Int32} {x12 : Int32} {r : Int32 × LwP}, apM X.1 X.2 → rec36 X x0 x1 x2 x3 x4 x6 x7 x8 x9 x10 x11 x12 = some r → Gd D (foot (lM X0)) ev (QF D ev (lM X0) (.inr (some (vI r.1))) (lM r.2) rmL_isWall) (lM X) 1 40 36 [(0, vA (some x0)), (1, vA (some x1)), (2, vA (some x2)), (3, vA (some x3)), (4, vI x4), (6, vA (some x6)), (7, vI x7), (8, vI x8), (9, vI x9), (10, vI x10), (11, vI x11), (12, vI x12)] []) (hrec108 : ∀ {X : LwP} {x0 : Nat} {x1 : Nat} {x2 : Nat} {x3 : Nat} {x4 : Int32} {x6 : Nat} {x7 : Int32} {x8 : Int32} {x9 : Int32} {x10 : Int32} {x12 : Int32} {x13 : Int32} {x14 : Int32} {x15 : Int32} {x16 : Int32} {x17 : Int32} {x18 : Int32} {r : Int32 × LwP}, apM X.1 X.2 → rec108 X x0 x1 x2 x3 x4 x6 x7 x8 x9 x10 x12 x13 x14 x15 x16 x17 x18 = some r → Gd D (foot (lM X0)) ev (QF D ev (lM X0) (.inr (some (vI r.1))) (lM r.2) rmL_isWall) (lM X) 1 40 108 [(0, vA (some x0)), (1, vA (some x1)), (2, vA (some x2)), (3, vA (some x3)), (4, vI x4), (6, vA (some x6)), (7, vI x7), (8, vI x8), (9, vI x9), (10, vI x10), (12, vI x12), (13, vI x13), (14, vI x14), (15, vI x15), (16, vI x16), (17, vI x17), (18, vI x18)] []) (h : fL_isWall_L150 fu rec36 rec108 X x0 x1 x2 x3 x4 x6 x7 x8 x9 x10 x12 x13 x14 x16 x17 x18 = some r) : Gd D (foot (lM X0)) ev (QF D ev (lM X0) (.inr (some (vI r.1))) (lM r.2) rmL_isWall) (lM X) 1 40 150 [(0, vA (some x0)), (1, vA (some x1)), (2, vA (some x2)), (3, vA (some x3)), (4, vI x4), (6, vA (some x6)), (7, vI x7), (8, vI x8), (9, vI x9), (10, vI x10), (12, vI x12), (13, vI x13), (14, vI x14), (16, vI x16), (17, vI x17), (18, vI x18)] [] := by
  unfold fL_isWall_L150 at h
  refine g_aload_n (pc := 150) B dL_isWall_150 1 rfl ?_
  refine g_aload (pc := 151) B dL_isWall_151 5 rfl ?_
  refine g_iload (pc := 153) B dL_isWall_153 15 rfl ?_
  refine g_aload_n (pc := 155) B dL_isWall_155 1 rfl ?_
  refine g_bipush (pc := 156) B dL_isWall_156 (6 : Int32) (by decide) ?_
  obtain ⟨c158, h⟩ := chk h
  refine gp_iald (pc := 158) (P := X) B hap c158 dL_isWall_158 ?_
  obtain ⟨c159, h⟩ := chkN h
  refine g_irem (pc := 159) B dL_isWall_159 c159 ?_
  refine g_iload (pc := 160) B dL_isWall_160 15 rfl ?_
  refine g_aload_n (pc := 162) B dL_isWall_162 1 rfl ?_
  refine g_bipush (pc := 163) B dL_isWall_163 (6 : Int32) (by decide) ?_
  obtain ⟨c165, h⟩ := chk h
  refine gp_iald (pc := 165) (P := X) B hap c165 dL_isWall_165 ?_
  obtain ⟨c166, h⟩ := chkN h
  refine g_idiv (pc := 166) B dL_isWall_166 c166 ?_
  refine g_iload (pc := 167) B dL_isWall_167 13 rfl ?_
  refine g_iload (pc := 169) B dL_isWall_169 14 rfl ?_
  obtain ⟨v171, e171, h⟩ := ob h
  refine h_callS (pc := 171) (As := [vA (some x1), vA (some x6), vI (x18 - x18 / (aI X.2 x1 (6 : Int32).toNatClampNeg) * (aI X.2 x1 (6 : Int32).toNatClampNeg)), vI (x18 / (aI X.2 x1 (6 : Int32).toNatClampNeg)), vI x16, vI x17]) (st := []) (X' := (lM X)) (cs' := 1) (sl' := 40) (st10 := [vI v171]) B cal_L_isFree kmL_139 kz_L_isFree (fun l hl => ct_L_isFree (X0 := X) hl hap e171) rfl (Nat.le_of_ble_eq_true rfl) (by decide) (by decide) dL_isWall_171 rfl rfl rfl rfl ?_
  refine g_if_eq (pc := 174) (tgt := 182) B dL_isWall_174 (by decide) (fun c174 => ?_) (fun c174 => ?_)
  · rw [if_pos c174] at h
    refine g_iconst (pc := 182) B dL_isWall_182 (-1) (by decide) ?_
    refine g_sub (pc := 183) [0, 1, 2, 3, 4, 5, 6, 7, 8, 9, 10, 11, 12, 13, 14, 15] rfl ?_
    exact cb_L_isWall_L183 B ht hap hrec36 hrec108 h
  · rw [if_neg c174] at h
    refine g_iload (pc := 177) B dL_isWall_177 15 rfl ?_
    refine g_goto (pc := 179) (tgt := 183) B dL_isWall_179 (by decide) ?_
    refine g_sub (pc := 183) [0, 1, 2, 3, 4, 5, 6, 7, 8, 9, 10, 11, 12, 13, 14, 15] rfl ?_
    exact cb_L_isWall_L183 B ht hap hrec36 hrec108 h
set_option maxRecDepth 100000 in
set_option maxHeartbeats 4000000 in
theorem cb_L_isWall_L108b {D : DD} {ev : EV} {X0 : LwP} {fu : Nat} {rec36 : LwP → Nat → Nat → Nat → Nat → Int32 → Nat → Int32 → Int32 → Int32 → Int32 → Int32 → Int32 → Option (Int32 × LwP)} {rec108 : LwP → Nat → Nat → Nat → Nat → Int32 → Nat → Int32 → Int32 → Int32 → Int32 → Int32 → Int32 → Int32 → Int32 → Int32 → Int32 → Int32 → Option (Int32 × LwP)} {X : LwP} {x0 : Nat} {x1 : Nat} {x2 : Nat} {x3 : Nat} {x4 : Int32} {x6 : Nat} {x7 : Int32} {x8 : Int32} {x9 : Int32} {x10 : Int32} {x12 : Int32} {x13 : Int32} {x14 : Int32} {x15 : Int32} {x16 : Int32} {x17 : Int32} {x18 : Int32} {r : Int32 × LwP} (B : Amb D (foot (lM X0)) ev RL "isWall" cL_isWall 19 (some .boolean) rmL_isWall) (ht : Tb0 ev) (hap : apM X.1 X.2) (hrec36 : ∀ {X : LwP} {x0 : Nat} {x1 : Nat} {x2 : Nat} {x3 : Nat} {x4 : Int32} {x6 : Nat} {x7 : Int32} {x8 : Int32} {x9 : Int32} {x10 : Int32} {x11 : Int32} {x12 : Int32} {r : Int32 × LwP}, apM X.1 X.2 → rec36 X x0 x1 x2 x3 x4 x6 x7 x8 x9 x10 x11 x12 = some r → Gd D (foot (lM X0)) ev (QF D ev (lM X0) (.inr (some (vI r.1))) (lM r.2) rmL_isWall) (lM X) 1 40 36 [(0, vA (some x0)), (1, vA (some x1)), (2, vA (some x2)), (3, vA (some x3)), (4, vI x4), (6, vA (some x6)), (7, vI x7), (8, vI x8), (9, vI x9), (10, vI x10), (11, vI x11), (12, vI x12)] []) (hrec108 : ∀ {X : LwP} {x0 : Nat} {x1 : Nat} {x2 : Nat} {x3 : Nat} {x4 : Int32} {x6 : Nat} {x7 : Int32} {x8 : Int32} {x9 : Int32} {x10 : Int32} {x12 : Int32} {x13 : Int32} {x14 : Int32} {x15 : Int32} {x16 : Int32} {x17 : Int32} {x18 : Int32} {r : Int32 × LwP}, apM X.1 X.2 → rec108 X x0 x1 x2 x3 x4 x6 x7 x8 x9 x10 x12 x13 x14 x15 x16 x17 x18 = some r → Gd D (foot (lM X0)) ev (QF D ev (lM X0) (.inr (some (vI r.1))) (lM r.2) rmL_isWall) (lM X) 1 40 108 [(0, vA (some x0)), (1, vA (some x1)), (2, vA (some x2)), (3, vA (some x3)), (4, vI x4), (6, vA (some x6)), (7, vI x7), (8, vI x8), (9, vI x9), (10, vI x10), (12, vI x12), (13, vI x13), (14, vI x14), (15, vI x15), (16, vI x16), (17, vI x17), (18, vI x18)] []) (h : fL_isWall_L108b fu rec36 rec108 X x0 x1 x2 x3 x4 x6 x7 x8 x9 x10 x12 x13 x14 x15 x16 x17 x18 = some r) : Gd D (foot (lM X0)) ev (QF D ev (lM X0) (.inr (some (vI r.1))) (lM r.2) rmL_isWall) (lM X) 1 40 108 [(0, vA (some x0)), (1, vA (some x1)), (2, vA (some x2)), (3, vA (some x3)), (4, vI x4), (6, vA (some x6)), (7, vI x7), (8, vI x8), (9, vI x9), (10, vI x10), (12, vI x12), (13, vI x13), (14, vI x14), (15, vI x15), (16, vI x16), (17, vI x17), (18, vI x18)] [] := by
  unfold fL_isWall_L108b at h
  refine g_iload (pc := 108) B dL_isWall_108 16 rfl ?_
  refine g_aload_n (pc := 110) B dL_isWall_110 1 rfl ?_
  refine g_bipush (pc := 111) B dL_isWall_111 (6 : Int32) (by decide) ?_
  obtain ⟨c113, h⟩ := chk h
  refine gp_iald (pc := 113) (P := X) B hap c113 dL_isWall_113 ?_
  refine g_aload_n (pc := 114) B dL_isWall_114 1 rfl ?_
  refine g_bipush (pc := 115) B dL_isWall_115 (7 : Int32) (by decide) ?_
  obtain ⟨c117, h⟩ := chk h
  refine gp_iald (pc := 117) (P := X) B hap c117 dL_isWall_117 ?_
  refine g_imul (pc := 118) B dL_isWall_118 ?_
  refine g_icmp_ge (pc := 119) (tgt := 191) B dL_isWall_119 (by decide) (fun c119 => ?_) (fun c119 => ?_)
  · rw [if_pos c119] at h
    refine g_sub (pc := 191) [0, 1, 2, 3, 4, 5, 6, 7, 8, 9, 10, 11, 12, 13, 14, 15] rfl ?_
    exact cb_L_isWall_L191 B ht hap hrec36 h
  · rw [if_neg c119] at h
    refine g_iload (pc := 122) B dL_isWall_122 13 rfl ?_
    refine g_iconst (pc := 124) B dL_isWall_124 (-1) (by decide) ?_
    refine g_icmp_ne (pc := 125) (tgt := 191) B dL_isWall_125 (by decide) (fun c125 => ?_) (fun c125 => ?_)
    · rw [if_neg c125] at h
      refine g_sub (pc := 191) [0, 1, 2, 3, 4, 5, 6, 7, 8, 9, 10, 11, 12, 13, 14, 15] rfl ?_
      exact cb_L_isWall_L191 B ht hap hrec36 h
    · rw [if_pos c125] at h
      refine g_iload (pc := 128) B dL_isWall_128 11 rfl ?_
      refine g_if_eq (pc := 130) (tgt := 191) B dL_isWall_130 (by decide) (fun c130 => ?_) (fun c130 => ?_)
      · rw [if_pos c130] at h
        refine g_sub (pc := 191) [0, 1, 2, 3, 4, 5, 6, 7, 8, 9, 10, 11, 12, 13, 14, 15] rfl ?_
        exact cb_L_isWall_L191 B ht hap hrec36 h
      · rw [if_neg c130] at h
        refine g_iload (pc := 133) B dL_isWall_133 12 rfl ?_
        refine g_iconst (pc := 135) B dL_isWall_135 (-1) (by decide) ?_
        refine g_icmp_eq (pc := 136) (tgt := 150) B dL_isWall_136 (by decide) (fun c136 => ?_) (fun c136 => ?_)
        · rw [if_pos c136] at h
          refine g_sub (pc := 150) [0, 1, 2, 3, 4, 5, 6, 7, 8, 9, 10, 11, 12, 14, 15, 16] rfl ?_
          exact cb_L_isWall_L150 B ht hap hrec36 hrec108 h
        · rw [if_neg c136] at h
          refine g_aload_n (pc := 139) B dL_isWall_139 3 rfl ?_
          refine g_bipush (pc := 140) B dL_isWall_140 (32 : Int32) (by decide) ?_
          refine g_iload (pc := 142) B dL_isWall_142 10 rfl ?_
          refine g_iadd (pc := 144) B dL_isWall_144 ?_
          obtain ⟨c145, h⟩ := chk h
          refine gp_iald (pc := 145) (P := X) B hap c145 dL_isWall_145 ?_
          refine g_iconst (pc := 146) B dL_isWall_146 (1 : Int32) (by decide) ?_
          refine g_icmp_ne (pc := 147) (tgt := 191) B dL_isWall_147 (by decide) (fun c147 => ?_) (fun c147 => ?_)
          · rw [if_neg c147] at h
            refine g_sub (pc := 191) [0, 1, 2, 3, 4, 5, 6, 7, 8, 9, 10, 11, 12, 13, 14, 15] rfl ?_
            exact cb_L_isWall_L191 B ht hap hrec36 h
          · rw [if_pos c147] at h
            refine g_sub (pc := 150) [0, 1, 2, 3, 4, 5, 6, 7, 8, 9, 10, 11, 12, 14, 15, 16] rfl ?_
            exact cb_L_isWall_L150 B ht hap hrec36 hrec108 h
theorem cb_L_isWall_L108n {D : DD} {ev : EV} {X0 : LwP} {fu : Nat} {rec36 : LwP → Nat → Nat → Nat → Nat → Int32 → Nat → Int32 → Int32 → Int32 → Int32 → Int32 → Int32 → Option (Int32 × LwP)} (B : Amb D (foot (lM X0)) ev RL "isWall" cL_isWall 19 (some .boolean) rmL_isWall) (ht : Tb0 ev) (hrec36 : ∀ {X : LwP} {x0 : Nat} {x1 : Nat} {x2 : Nat} {x3 : Nat} {x4 : Int32} {x6 : Nat} {x7 : Int32} {x8 : Int32} {x9 : Int32} {x10 : Int32} {x11 : Int32} {x12 : Int32} {r : Int32 × LwP}, apM X.1 X.2 → rec36 X x0 x1 x2 x3 x4 x6 x7 x8 x9 x10 x11 x12 = some r → Gd D (foot (lM X0)) ev (QF D ev (lM X0) (.inr (some (vI r.1))) (lM r.2) rmL_isWall) (lM X) 1 40 36 [(0, vA (some x0)), (1, vA (some x1)), (2, vA (some x2)), (3, vA (some x3)), (4, vI x4), (6, vA (some x6)), (7, vI x7), (8, vI x8), (9, vI x9), (10, vI x10), (11, vI x11), (12, vI x12)] []) : ∀ (n : Nat) {X : LwP} {x0 : Nat} {x1 : Nat} {x2 : Nat} {x3 : Nat} {x4 : Int32} {x6 : Nat} {x7 : Int32} {x8 : Int32} {x9 : Int32} {x10 : Int32} {x12 : Int32} {x13 : Int32} {x14 : Int32} {x15 : Int32} {x16 : Int32} {x17 : Int32} {x18 : Int32} {r : Int32 × LwP}, apM X.1 X.2 → fL_isWall_L108 fu rec36 n X x0 x1 x2 x3 x4 x6 x7 x8 x9 x10 x12 x13 x14 x15 x16 x17 x18 = some r → Gd D (foot (lM X0)) ev (QF D ev (lM X0) (.inr (some (vI r.1))) (lM r.2) rmL_isWall) (lM X) 1 40 108 [(0, vA (some x0)), (1, vA (some x1)), (2, vA (some x2)), (3, vA (some x3)), (4, vI x4), (6, vA (some x6)), (7, vI x7), (8, vI x8), (9, vI x9), (10, vI x10), (12, vI x12), (13, vI x13), (14, vI x14), (15, vI x15), (16, vI x16), (17, vI x17), (18, vI x18)] [] := by
  intro n
  induction n with
  | zero => intro X x0 x1 x2 x3 x4 x6 x7 x8 x9 x10 x12 x13 x14 x15 x16 x17 x18 r hap h; exact nomatch h
  | succ n ih => intro X x0 x1 x2 x3 x4 x6 x7 x8 x9 x10 x12 x13 x14 x15 x16 x17 x18 r hap h; exact cb_L_isWall_L108b (fu := fu) B ht hap hrec36 (fun hap9 h9 => ih hap9 h9) h
theorem cb_L_isWall_L108 {D : DD} {ev : EV} {X0 : LwP} {fu : Nat} {rec36 : LwP → Nat → Nat → Nat → Nat → Int32 → Nat → Int32 → Int32 → Int32 → Int32 → Int32 → Int32 → Option (Int32 × LwP)} {X : LwP} {x0 : Nat} {x1 : Nat} {x2 : Nat} {x3 : Nat} {x4 : Int32} {x6 : Nat} {x7 : Int32} {x8 : Int32} {x9 : Int32} {x10 : Int32} {x12 : Int32} {x13 : Int32} {x14 : Int32} {x15 : Int32} {x16 : Int32} {x17 : Int32} {x18 : Int32} {n : Nat} {r : Int32 × LwP} (B : Amb D (foot (lM X0)) ev RL "isWall" cL_isWall 19 (some .boolean) rmL_isWall) (ht : Tb0 ev) (hap : apM X.1 X.2) (hrec36 : ∀ {X : LwP} {x0 : Nat} {x1 : Nat} {x2 : Nat} {x3 : Nat} {x4 : Int32} {x6 : Nat} {x7 : Int32} {x8 : Int32} {x9 : Int32} {x10 : Int32} {x11 : Int32} {x12 : Int32} {r : Int32 × LwP}, apM X.1 X.2 → rec36 X x0 x1 x2 x3 x4 x6 x7 x8 x9 x10 x11 x12 = some r → Gd D (foot (lM X0)) ev (QF D ev (lM X0) (.inr (some (vI r.1))) (lM r.2) rmL_isWall) (lM X) 1 40 36 [(0, vA (some x0)), (1, vA (some x1)), (2, vA (some x2)), (3, vA (some x3)), (4, vI x4), (6, vA (some x6)), (7, vI x7), (8, vI x8), (9, vI x9), (10, vI x10), (11, vI x11), (12, vI x12)] []) (h : fL_isWall_L108 fu rec36 n X x0 x1 x2 x3 x4 x6 x7 x8 x9 x10 x12 x13 x14 x15 x16 x17 x18 = some r) : Gd D (foot (lM X0)) ev (QF D ev (lM X0) (.inr (some (vI r.1))) (lM r.2) rmL_isWall) (lM X) 1 40 108 [(0, vA (some x0)), (1, vA (some x1)), (2, vA (some x2)), (3, vA (some x3)), (4, vI x4), (6, vA (some x6)), (7, vI x7), (8, vI x8), (9, vI x9), (10, vI x10), (12, vI x12), (13, vI x13), (14, vI x14), (15, vI x15), (16, vI x16), (17, vI x17), (18, vI x18)] [] := cb_L_isWall_L108n B ht (fun hap9 h9 => hrec36 hap9 h9) n hap h
set_option maxRecDepth 100000 in
set_option maxHeartbeats 4000000 in
theorem cb_L_isWall_L36b {D : DD} {ev : EV} {X0 : LwP} {fu : Nat} {rec36 : LwP → Nat → Nat → Nat → Nat → Int32 → Nat → Int32 → Int32 → Int32 → Int32 → Int32 → Int32 → Option (Int32 × LwP)} {X : LwP} {x0 : Nat} {x1 : Nat} {x2 : Nat} {x3 : Nat} {x4 : Int32} {x6 : Nat} {x7 : Int32} {x8 : Int32} {x9 : Int32} {x10 : Int32} {x11 : Int32} {x12 : Int32} {r : Int32 × LwP} (B : Amb D (foot (lM X0)) ev RL "isWall" cL_isWall 19 (some .boolean) rmL_isWall) (ht : Tb0 ev) (hap : apM X.1 X.2) (hrec36 : ∀ {X : LwP} {x0 : Nat} {x1 : Nat} {x2 : Nat} {x3 : Nat} {x4 : Int32} {x6 : Nat} {x7 : Int32} {x8 : Int32} {x9 : Int32} {x10 : Int32} {x11 : Int32} {x12 : Int32} {r : Int32 × LwP}, apM X.1 X.2 → rec36 X x0 x1 x2 x3 x4 x6 x7 x8 x9 x10 x11 x12 = some r → Gd D (foot (lM X0)) ev (QF D ev (lM X0) (.inr (some (vI r.1))) (lM r.2) rmL_isWall) (lM X) 1 40 36 [(0, vA (some x0)), (1, vA (some x1)), (2, vA (some x2)), (3, vA (some x3)), (4, vI x4), (6, vA (some x6)), (7, vI x7), (8, vI x8), (9, vI x9), (10, vI x10), (11, vI x11), (12, vI x12)] []) (h : fL_isWall_L36b fu rec36 X x0 x1 x2 x3 x4 x6 x7 x8 x9 x10 x11 x12 = some r) : Gd D (foot (lM X0)) ev (QF D ev (lM X0) (.inr (some (vI r.1))) (lM r.2) rmL_isWall) (lM X) 1 40 36 [(0, vA (some x0)), (1, vA (some x1)), (2, vA (some x2)), (3, vA (some x3)), (4, vI x4), (6, vA (some x6)), (7, vI x7), (8, vI x8), (9, vI x9), (10, vI x10), (11, vI x11), (12, vI x12)] [] := by
  unfold fL_isWall_L36b at h
  refine g_iload (pc := 36) B dL_isWall_36 11 rfl ?_
  refine g_aload_n (pc := 38) B dL_isWall_38 1 rfl ?_
  refine g_iconst (pc := 39) B dL_isWall_39 (5 : Int32) (by decide) ?_
  obtain ⟨c40, h⟩ := chk h
  refine gp_iald (pc := 40) (P := X) B hap c40 dL_isWall_40 ?_
  refine g_icmp_ge (pc := 41) (tgt := 424) B dL_isWall_41 (by decide) (fun c41 => ?_) (fun c41 => ?_)
  · rw [if_pos c41] at h
    refine g_sub (pc := 424) [0, 4, 6, 7, 8, 9, 10] rfl ?_
    exact cb_L_isWall_L424 B ht hap h
  · rw [if_neg c41] at h
    refine g_iload (pc := 44) B dL_isWall_44 10 rfl ?_
    refine g_if_eq (pc := 46) (tgt := 424) B dL_isWall_46 (by decide) (fun c46 => ?_) (fun c46 => ?_)
    · rw [if_pos c46] at h
      refine g_sub (pc := 424) [0, 4, 6, 7, 8, 9, 10] rfl ?_
      exact cb_L_isWall_L424 B ht hap h
    · rw [if_neg c46] at h
      refine g_aload_n (pc := 49) B dL_isWall_49 0 rfl ?_
      refine g_aload_n (pc := 50) B dL_isWall_50 1 rfl ?_
      refine g_aload_n (pc := 51) B dL_isWall_51 2 rfl ?_
      refine g_aload_n (pc := 52) B dL_isWall_52 3 rfl ?_
      refine g_iload (pc := 53) B dL_isWall_53 11 rfl ?_
      obtain ⟨v55, e55, h⟩ := ob h
      refine h_callS (pc := 55) (As := [vA (some x0), vA (some x1), vA (some x2), vA (some x3), vI x12]) (st := []) (X' := (lM X)) (cs' := 1) (sl' := 40) (st10 := [vI v55]) B cal_L_meets kmL_128 kz_L_meets (fun l hl => ct_L_meets (X0 := X) hl hap e55) rfl (Nat.le_of_ble_eq_true rfl) (by decide) (by decide) dL_isWall_55 rfl rfl rfl rfl ?_
      refine g_istore (pc := 58) (L' := [(13, vI v55), (0, vA (some x0)), (1, vA (some x1)), (2, vA (some x2)), (3, vA (some x3)), (4, vI x4), (6, vA (some x6)), (7, vI x7), (8, vI x8), (9, vI x9), (10, vI x10), (11, vI x11), (12, vI x12)]) B dL_isWall_58 (by decide) rfl ?_
      refine g_aload_n (pc := 60) B dL_isWall_60 1 rfl ?_
      refine g_aload_n (pc := 61) B dL_isWall_61 3 rfl ?_
      refine g_aload_n (pc := 62) B dL_isWall_62 4 rfl ?_
      refine g_iload (pc := 63) B dL_isWall_63 12 rfl ?_
      obtain ⟨v65, e65, h⟩ := ob h
      refine h_callS (pc := 65) (As := [vA (some x0), vA (some x2), vA (some x3), vI x12]) (st := []) (X' := (lM X)) (cs' := 1) (sl' := 40) (st10 := [vI v65]) B cal_L_copyOf kmL_135 kz_L_copyOf (fun l hl => ct_L_copyOf (X0 := X) hl hap e65) rfl (Nat.le_of_ble_eq_true rfl) (by decide) (by decide) dL_isWall_65 rfl rfl rfl rfl ?_
      refine g_istore (pc := 68) (L' := [(14, vI v65), (13, vI v55), (0, vA (some x0)), (1, vA (some x1)), (2, vA (some x2)), (3, vA (some x3)), (4, vI x4), (6, vA (some x6)), (7, vI x7), (8, vI x8), (9, vI x9), (10, vI x10), (11, vI x11), (12, vI x12)]) B dL_isWall_68 (by decide) rfl ?_
      refine g_iconst (pc := 70) B dL_isWall_70 (-1) (by decide) ?_
      refine g_istore (pc := 71) (L' := [(15, vI (-1)), (14, vI v65), (13, vI v55), (0, vA (some x0)), (1, vA (some x1)), (2, vA (some x2)), (3, vA (some x3)), (4, vI x4), (6, vA (some x6)), (7, vI x7), (8, vI x8), (9, vI x9), (10, vI x10), (11, vI x11), (12, vI x12)]) B dL_isWall_71 (by decide) rfl ?_
      refine g_aload_n (pc := 73) B dL_isWall_73 5 rfl ?_
      refine g_bipush (pc := 74) B dL_isWall_74 (40 : Int32) (by decide) ?_
      refine g_aload_n (pc := 76) B dL_isWall_76 6 rfl ?_
      refine g_bipush (pc := 77) B dL_isWall_77 (12 : Int32) (by decide) ?_
      refine g_iload (pc := 79) B dL_isWall_79 14 rfl ?_
      refine g_iadd (pc := 81) B dL_isWall_81 ?_
      obtain ⟨c82, h⟩ := chk h
      refine gp_iald (pc := 82) (P := X) B hap c82 dL_isWall_82 ?_
      refine g_iadd (pc := 83) B dL_isWall_83 ?_
      obtain ⟨c84, h⟩ := chk h
      refine gp_iald (pc := 84) (P := X) B hap c84 dL_isWall_84 ?_
      refine g_iconst (pc := 85) B dL_isWall_85 (1 : Int32) (by decide) ?_
      refine g_iadd (pc := 86) B dL_isWall_86 ?_
      refine g_istore (pc := 87) (L' := [(16, vI ((aI X.2 x2 ((40 : Int32) + (aI X.2 x3 ((12 : Int32) + x12).toNatClampNeg)).toNatClampNeg) + (1 : Int32))), (15, vI (-1)), (14, vI v65), (13, vI v55), (0, vA (some x0)), (1, vA (some x1)), (2, vA (some x2)), (3, vA (some x3)), (4, vI x4), (6, vA (some x6)), (7, vI x7), (8, vI x8), (9, vI x9), (10, vI x10), (11, vI x11), (12, vI x12)]) B dL_isWall_87 (by decide) rfl ?_
      refine g_aload_n (pc := 89) B dL_isWall_89 6 rfl ?_
      refine g_bipush (pc := 90) B dL_isWall_90 (50 : Int32) (by decide) ?_
      refine g_aload_n (pc := 92) B dL_isWall_92 7 rfl ?_
      refine g_bipush (pc := 93) B dL_isWall_93 (12 : Int32) (by decide) ?_
      refine g_iload (pc := 95) B dL_isWall_95 15 rfl ?_
      refine g_iadd (pc := 97) B dL_isWall_97 ?_
      obtain ⟨c98, h⟩ := chk h
      refine gp_iald (pc := 98) (P := X) B hap c98 dL_isWall_98 ?_
      refine g_iadd (pc := 99) B dL_isWall_99 ?_
      obtain ⟨c100, h⟩ := chk h
      refine gp_iald (pc := 100) (P := X) B hap c100 dL_isWall_100 ?_
      refine g_iconst (pc := 101) B dL_isWall_101 (1 : Int32) (by decide) ?_
      refine g_iadd (pc := 102) B dL_isWall_102 ?_
      refine g_istore (pc := 103) (L' := [(17, vI ((aI X.2 x2 ((50 : Int32) + (aI X.2 x3 ((12 : Int32) + x12).toNatClampNeg)).toNatClampNeg) + (1 : Int32))), (16, vI ((aI X.2 x2 ((40 : Int32) + (aI X.2 x3 ((12 : Int32) + x12).toNatClampNeg)).toNatClampNeg) + (1 : Int32))), (15, vI (-1)), (14, vI v65), (13, vI v55), (0, vA (some x0)), (1, vA (some x1)), (2, vA (some x2)), (3, vA (some x3)), (4, vI x4), (6, vA (some x6)), (7, vI x7), (8, vI x8), (9, vI x9), (10, vI x10), (11, vI x11), (12, vI x12)]) B dL_isWall_103 (by decide) rfl ?_
      refine g_iconst (pc := 105) B dL_isWall_105 (0 : Int32) (by decide) ?_
      refine g_istore (pc := 106) (L' := [(18, vI (0 : Int32)), (17, vI ((aI X.2 x2 ((50 : Int32) + (aI X.2 x3 ((12 : Int32) + x12).toNatClampNeg)).toNatClampNeg) + (1 : Int32))), (16, vI ((aI X.2 x2 ((40 : Int32) + (aI X.2 x3 ((12 : Int32) + x12).toNatClampNeg)).toNatClampNeg) + (1 : Int32))), (15, vI (-1)), (14, vI v65), (13, vI v55), (0, vA (some x0)), (1, vA (some x1)), (2, vA (some x2)), (3, vA (some x3)), (4, vI x4), (6, vA (some x6)), (7, vI x7), (8, vI x8), (9, vI x9), (10, vI x10), (11, vI x11), (12, vI x12)]) B dL_isWall_106 (by decide) rfl ?_
      refine g_sub (pc := 108) [6, 7, 8, 9, 10, 11, 12, 13, 14, 15, 17, 5, 4, 3, 2, 1, 0] rfl ?_
      exact cb_L_isWall_L108 B ht hap hrec36 h
theorem cb_L_isWall_L36n {D : DD} {ev : EV} {X0 : LwP} {fu : Nat} (B : Amb D (foot (lM X0)) ev RL "isWall" cL_isWall 19 (some .boolean) rmL_isWall) (ht : Tb0 ev)  : ∀ (n : Nat) {X : LwP} {x0 : Nat} {x1 : Nat} {x2 : Nat} {x3 : Nat} {x4 : Int32} {x6 : Nat} {x7 : Int32} {x8 : Int32} {x9 : Int32} {x10 : Int32} {x11 : Int32} {x12 : Int32} {r : Int32 × LwP}, apM X.1 X.2 → fL_isWall_L36 fu n X x0 x1 x2 x3 x4 x6 x7 x8 x9 x10 x11 x12 = some r → Gd D (foot (lM X0)) ev (QF D ev (lM X0) (.inr (some (vI r.1))) (lM r.2) rmL_isWall) (lM X) 1 40 36 [(0, vA (some x0)), (1, vA (some x1)), (2, vA (some x2)), (3, vA (some x3)), (4, vI x4), (6, vA (some x6)), (7, vI x7), (8, vI x8), (9, vI x9), (10, vI x10), (11, vI x11), (12, vI x12)] [] := by
  intro n
  induction n with
  | zero => intro X x0 x1 x2 x3 x4 x6 x7 x8 x9 x10 x11 x12 r hap h; exact nomatch h
  | succ n ih => intro X x0 x1 x2 x3 x4 x6 x7 x8 x9 x10 x11 x12 r hap h; exact cb_L_isWall_L36b (fu := fu) B ht hap (fun hap9 h9 => ih hap9 h9) h
theorem cb_L_isWall_L36 {D : DD} {ev : EV} {X0 : LwP} {fu : Nat} {X : LwP} {x0 : Nat} {x1 : Nat} {x2 : Nat} {x3 : Nat} {x4 : Int32} {x6 : Nat} {x7 : Int32} {x8 : Int32} {x9 : Int32} {x10 : Int32} {x11 : Int32} {x12 : Int32} {n : Nat} {r : Int32 × LwP} (B : Amb D (foot (lM X0)) ev RL "isWall" cL_isWall 19 (some .boolean) rmL_isWall) (ht : Tb0 ev) (hap : apM X.1 X.2)  (h : fL_isWall_L36 fu n X x0 x1 x2 x3 x4 x6 x7 x8 x9 x10 x11 x12 = some r) : Gd D (foot (lM X0)) ev (QF D ev (lM X0) (.inr (some (vI r.1))) (lM r.2) rmL_isWall) (lM X) 1 40 36 [(0, vA (some x0)), (1, vA (some x1)), (2, vA (some x2)), (3, vA (some x3)), (4, vI x4), (6, vA (some x6)), (7, vI x7), (8, vI x8), (9, vI x9), (10, vI x10), (11, vI x11), (12, vI x12)] [] := cb_L_isWall_L36n B ht n hap h
set_option maxRecDepth 100000 in
set_option maxHeartbeats 4000000 in
theorem cb_L_isWall_L0 {D : DD} {ev : EV} {X0 : LwP} {fu : Nat} {X : LwP} {x0 : Nat} {x1 : Nat} {x2 : Nat} {x3 : Nat} {x4 : Int32} {x5 : Int32} {r : Int32 × LwP} (B : Amb D (foot (lM X0)) ev RL "isWall" cL_isWall 19 (some .boolean) rmL_isWall) (ht : Tb0 ev) (hap : apM X.1 X.2)  (h : fL_isWall fu X x0 x1 x2 x3 x4 x5 = some r) : Gd D (foot (lM X0)) ev (QF D ev (lM X0) (.inr (some (vI r.1))) (lM r.2) rmL_isWall) (lM X) 0 0 0 [(0, vA (some x0)), (1, vA (some x1)), (2, vA (some x2)), (3, vA (some x3)), (4, vI x4), (5, vI x5)] [] := by
  unfold fL_isWall at h
  refine g_bipush (pc := 0) B dL_isWall_0 (40 : Int32) (by decide) ?_
  obtain ⟨q2, eq2, h⟩ := ob h
  obtain ⟨X2, eX2, h⟩ := ob h
  obtain ⟨hap2, h⟩ := apC_s h
  refine gp_newa (pc := 2) (P := X) (t := 2) (N := 40) B eq2 eX2 hap2 (by decide) rfl ka2 (by decide) (by decide) (by decide) (by decide) (by decide) dL_isWall_2 ?_
  refine g_widen (cs' := 1) (sl' := 40) (by decide) (by decide) ?_
  refine g_astore (pc := 4) (L' := [(6, vA (some q2)), (0, vA (some x0)), (1, vA (some x1)), (2, vA (some x2)), (3, vA (some x3)), (4, vI x4), (5, vI x5)]) B dL_isWall_4 (by decide) rfl ?_
  refine g_iconst (pc := 6) B dL_isWall_6 (0 : Int32) (by decide) ?_
  refine g_istore (pc := 7) (L' := [(7, vI (0 : Int32)), (6, vA (some q2)), (0, vA (some x0)), (1, vA (some x1)), (2, vA (some x2)), (3, vA (some x3)), (4, vI x4), (5, vI x5)]) B dL_isWall_7 (by decide) rfl ?_
  refine g_iconst (pc := 9) B dL_isWall_9 (-1) (by decide) ?_
  refine g_istore (pc := 10) (L' := [(8, vI (-1)), (7, vI (0 : Int32)), (6, vA (some q2)), (0, vA (some x0)), (1, vA (some x1)), (2, vA (some x2)), (3, vA (some x3)), (4, vI x4), (5, vI x5)]) B dL_isWall_10 (by decide) rfl ?_
  refine g_iload (pc := 12) B dL_isWall_12 7 rfl ?_
  refine g_aload_n (pc := 14) B dL_isWall_14 4 rfl ?_
  refine g_bipush (pc := 15) B dL_isWall_15 (6 : Int32) (by decide) ?_
  obtain ⟨c17, h⟩ := chk h
  refine gp_iald (pc := 17) (P := X2) B hap2 c17 dL_isWall_17 ?_
  obtain ⟨c18, h⟩ := chkN h
  refine g_irem (pc := 18) B dL_isWall_18 c18 ?_
  refine g_istore (pc := 19) (L' := [(9, vI (x4 - x4 / (aI X2.2 x1 (6 : Int32).toNatClampNeg) * (aI X2.2 x1 (6 : Int32).toNatClampNeg))), (8, vI (-1)), (7, vI (0 : Int32)), (6, vA (some q2)), (0, vA (some x0)), (1, vA (some x1)), (2, vA (some x2)), (3, vA (some x3)), (4, vI x4), (5, vI x5)]) B dL_isWall_19 (by decide) rfl ?_
  refine g_iload (pc := 21) B dL_isWall_21 9 rfl ?_
  refine g_aload_n (pc := 23) B dL_isWall_23 5 rfl ?_
  refine g_bipush (pc := 24) B dL_isWall_24 (7 : Int32) (by decide) ?_
  obtain ⟨c26, h⟩ := chk h
  refine gp_iald (pc := 26) (P := X2) B hap2 c26 dL_isWall_26 ?_
  obtain ⟨c27, h⟩ := chkN h
  refine g_irem (pc := 27) B dL_isWall_27 c27 ?_
  refine g_istore (pc := 28) (L' := [(10, vI (x5 - x5 / (aI X2.2 x1 (7 : Int32).toNatClampNeg) * (aI X2.2 x1 (7 : Int32).toNatClampNeg))), (9, vI (x4 - x4 / (aI X2.2 x1 (6 : Int32).toNatClampNeg) * (aI X2.2 x1 (6 : Int32).toNatClampNeg))), (8, vI (-1)), (7, vI (0 : Int32)), (6, vA (some q2)), (0, vA (some x0)), (1, vA (some x1)), (2, vA (some x2)), (3, vA (some x3)), (4, vI x4), (5, vI x5)]) B dL_isWall_28 (by decide) rfl ?_
  refine g_iconst (pc := 30) B dL_isWall_30 (1 : Int32) (by decide) ?_
  refine g_istore (pc := 31) (L' := [(11, vI (1 : Int32)), (10, vI (x5 - x5 / (aI X2.2 x1 (7 : Int32).toNatClampNeg) * (aI X2.2 x1 (7 : Int32).toNatClampNeg))), (9, vI (x4 - x4 / (aI X2.2 x1 (6 : Int32).toNatClampNeg) * (aI X2.2 x1 (6 : Int32).toNatClampNeg))), (8, vI (-1)), (7, vI (0 : Int32)), (6, vA (some q2)), (0, vA (some x0)), (1, vA (some x1)), (2, vA (some x2)), (3, vA (some x3)), (4, vI x4), (5, vI x5)]) B dL_isWall_31 (by decide) rfl ?_
  refine g_iconst (pc := 33) B dL_isWall_33 (0 : Int32) (by decide) ?_
  refine g_istore (pc := 34) (L' := [(12, vI (0 : Int32)), (11, vI (1 : Int32)), (10, vI (x5 - x5 / (aI X2.2 x1 (7 : Int32).toNatClampNeg) * (aI X2.2 x1 (7 : Int32).toNatClampNeg))), (9, vI (x4 - x4 / (aI X2.2 x1 (6 : Int32).toNatClampNeg) * (aI X2.2 x1 (6 : Int32).toNatClampNeg))), (8, vI (-1)), (7, vI (0 : Int32)), (6, vA (some q2)), (0, vA (some x0)), (1, vA (some x1)), (2, vA (some x2)), (3, vA (some x3)), (4, vI x4), (5, vI x5)]) B dL_isWall_34 (by decide) rfl ?_
  refine g_sub (pc := 36) [7, 8, 9, 10, 11, 6, 5, 4, 3, 2, 1, 0] rfl ?_
  exact cb_L_isWall_L36 B ht hap2 h
theorem ct_L_isWall {D : DD} {l : Launch} {X0 : LwP} {fu : Nat} {x0 : Nat} {x1 : Nat} {x2 : Nat} {x3 : Nat} {x4 : Int32} {x5 : Int32} {r : Int32 × LwP} (hl : l.stackTraces = false) (hap : apM X0.1 X0.2) (h : fL_isWall fu X0 x0 x1 x2 x3 x4 x5 = some r) : Ctr D l yL_isWall cL_isWall 19 (some .boolean) rmL_isWall [vA (some x0), vA (some x1), vA (some x2), vA (some x3), vI x4, vI x5] (lM X0) (.inr (some (vI r.1))) (lM r.2) :=
  ctr_of hl (by decide +kernel) (Nat.le_of_ble_eq_true rfl) fun ev _ ht B => cb_L_isWall_L0 B ht hap h
